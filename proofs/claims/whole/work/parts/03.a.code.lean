theorem dX0_number_0 : decode cX0_number 0 = .ok (.iload_n 0, 1) := by decide +kernel
theorem dX0_number_1 : decode cX0_number 1 = .ok (.bipush 8, 2) := by decide +kernel
theorem dX0_number_3 : decode cX0_number 3 = .ok (.imul, 1) := by decide +kernel
theorem dX0_number_4 : decode cX0_number 4 = .ok (.iload_n 1, 1) := by decide +kernel
theorem dX0_number_5 : decode cX0_number 5 = .ok (.iadd, 1) := by decide +kernel
theorem dX0_number_6 : decode cX0_number 6 = .ok (.ireturn, 1) := by decide +kernel
theorem dX0_only_0 : decode cX0_only 0 = .ok (.lconst 1, 1) := by decide +kernel
theorem dX0_only_1 : decode cX0_only 1 = .ok (.iload_n 0, 1) := by decide +kernel
theorem dX0_only_2 : decode cX0_only 2 = .ok (.iload_n 1, 1) := by decide +kernel
theorem dX0_only_3 : decode cX0_only 3 = .ok (.invokestatic 9, 3) := by decide +kernel
theorem dX0_only_6 : decode cX0_only 6 = .ok (.lshl, 1) := by decide +kernel
theorem dX0_only_7 : decode cX0_only 7 = .ok (.lreturn, 1) := by decide +kernel
theorem dX0_inRow_0 : decode cX0_inRow 0 = .ok (.ldc2_w 13, 3) := by decide +kernel
theorem dX0_inRow_3 : decode cX0_inRow 3 = .ok (.iload_n 0, 1) := by decide +kernel
theorem dX0_inRow_4 : decode cX0_inRow 4 = .ok (.bipush 8, 2) := by decide +kernel
theorem dX0_inRow_6 : decode cX0_inRow 6 = .ok (.imul, 1) := by decide +kernel
theorem dX0_inRow_7 : decode cX0_inRow 7 = .ok (.lshl, 1) := by decide +kernel
theorem dX0_inRow_8 : decode cX0_inRow 8 = .ok (.lreturn, 1) := by decide +kernel
theorem dX0_inColumn_0 : decode cX0_inColumn 0 = .ok (.ldc2_w 15, 3) := by decide +kernel
theorem dX0_inColumn_3 : decode cX0_inColumn 3 = .ok (.iload_n 0, 1) := by decide +kernel
theorem dX0_inColumn_4 : decode cX0_inColumn 4 = .ok (.lshl, 1) := by decide +kernel
theorem dX0_inColumn_5 : decode cX0_inColumn 5 = .ok (.lreturn, 1) := by decide +kernel
theorem dX0_block_0 : decode cX0_block 0 = .ok (.lconst 1, 1) := by decide +kernel
theorem dX0_block_1 : decode cX0_block 1 = .ok (.iload_n 3, 1) := by decide +kernel
theorem dX0_block_2 : decode cX0_block 2 = .ok (.iload_n 2, 1) := by decide +kernel
theorem dX0_block_3 : decode cX0_block 3 = .ok (.isub, 1) := by decide +kernel
theorem dX0_block_4 : decode cX0_block 4 = .ok (.iconst 1, 1) := by decide +kernel
theorem dX0_block_5 : decode cX0_block 5 = .ok (.iadd, 1) := by decide +kernel
theorem dX0_block_6 : decode cX0_block 6 = .ok (.lshl, 1) := by decide +kernel
theorem dX0_block_7 : decode cX0_block 7 = .ok (.lconst 1, 1) := by decide +kernel
theorem dX0_block_8 : decode cX0_block 8 = .ok (.lsub, 1) := by decide +kernel
theorem dX0_block_9 : decode cX0_block 9 = .ok (.iload_n 2, 1) := by decide +kernel
theorem dX0_block_10 : decode cX0_block 10 = .ok (.lshl, 1) := by decide +kernel
theorem dX0_block_11 : decode cX0_block 11 = .ok (.lstore 4, 2) := by decide +kernel
theorem dX0_block_13 : decode cX0_block 13 = .ok (.lconst 0, 1) := by decide +kernel
theorem dX0_block_14 : decode cX0_block 14 = .ok (.lstore 6, 2) := by decide +kernel
theorem dX0_block_16 : decode cX0_block 16 = .ok (.iload_n 0, 1) := by decide +kernel
theorem dX0_block_17 : decode cX0_block 17 = .ok (.istore 8, 2) := by decide +kernel
theorem dX0_block_19 : decode cX0_block 19 = .ok (.iload 8, 2) := by decide +kernel
theorem dX0_block_21 : decode cX0_block 21 = .ok (.iload_n 1, 1) := by decide +kernel
theorem dX0_block_22 : decode cX0_block 22 = .ok (.if_icmp .gt 22, 3) := by decide +kernel
theorem dX0_block_25 : decode cX0_block 25 = .ok (.lload 6, 2) := by decide +kernel
theorem dX0_block_27 : decode cX0_block 27 = .ok (.lload 4, 2) := by decide +kernel
theorem dX0_block_29 : decode cX0_block 29 = .ok (.iload 8, 2) := by decide +kernel
theorem dX0_block_31 : decode cX0_block 31 = .ok (.bipush 8, 2) := by decide +kernel
theorem dX0_block_33 : decode cX0_block 33 = .ok (.imul, 1) := by decide +kernel
theorem dX0_block_34 : decode cX0_block 34 = .ok (.lshl, 1) := by decide +kernel
theorem dX0_block_35 : decode cX0_block 35 = .ok (.lor, 1) := by decide +kernel
theorem dX0_block_36 : decode cX0_block 36 = .ok (.lstore 6, 2) := by decide +kernel
theorem dX0_block_38 : decode cX0_block 38 = .ok (.iinc 8 1, 3) := by decide +kernel
theorem dX0_block_41 : decode cX0_block 41 = .ok (.goto (-22), 3) := by decide +kernel
theorem dX0_block_44 : decode cX0_block 44 = .ok (.lload 6, 2) := by decide +kernel
theorem dX0_block_46 : decode cX0_block 46 = .ok (.lreturn, 1) := by decide +kernel
theorem dX0_first_0 : decode cX0_first 0 = .ok (.lload_n 0, 1) := by decide +kernel
theorem dX0_first_1 : decode cX0_first 1 = .ok (.lload_n 0, 1) := by decide +kernel
theorem dX0_first_2 : decode cX0_first 2 = .ok (.lneg, 1) := by decide +kernel
theorem dX0_first_3 : decode cX0_first 3 = .ok (.land, 1) := by decide +kernel
theorem dX0_first_4 : decode cX0_first 4 = .ok (.lreturn, 1) := by decide +kernel
theorem dX0_numberOfFirst_0 : decode cX0_numberOfFirst 0 = .ok (.lload_n 0, 1) := by decide +kernel
theorem dX0_numberOfFirst_1 : decode cX0_numberOfFirst 1 = .ok (.invokestatic 17, 3) := by decide +kernel
theorem dX0_numberOfFirst_4 : decode cX0_numberOfFirst 4 = .ok (.lconst 1, 1) := by decide +kernel
theorem dX0_numberOfFirst_5 : decode cX0_numberOfFirst 5 = .ok (.lsub, 1) := by decide +kernel
theorem dX0_numberOfFirst_6 : decode cX0_numberOfFirst 6 = .ok (.invokestatic 21, 3) := by decide +kernel
theorem dX0_numberOfFirst_9 : decode cX0_numberOfFirst 9 = .ok (.ireturn, 1) := by decide +kernel
theorem dX0_pairsRight_0 : decode cX0_pairsRight 0 = .ok (.lload_n 0, 1) := by decide +kernel
theorem dX0_pairsRight_1 : decode cX0_pairsRight 1 = .ok (.lload_n 0, 1) := by decide +kernel
theorem dX0_pairsRight_2 : decode cX0_pairsRight 2 = .ok (.iconst 1, 1) := by decide +kernel
theorem dX0_pairsRight_3 : decode cX0_pairsRight 3 = .ok (.lushr, 1) := by decide +kernel
theorem dX0_pairsRight_4 : decode cX0_pairsRight 4 = .ok (.land, 1) := by decide +kernel
theorem dX0_pairsRight_5 : decode cX0_pairsRight 5 = .ok (.lreturn, 1) := by decide +kernel
theorem dX0_pairsBelow_0 : decode cX0_pairsBelow 0 = .ok (.lload_n 0, 1) := by decide +kernel
theorem dX0_pairsBelow_1 : decode cX0_pairsBelow 1 = .ok (.lload_n 0, 1) := by decide +kernel
theorem dX0_pairsBelow_2 : decode cX0_pairsBelow 2 = .ok (.bipush 8, 2) := by decide +kernel
theorem dX0_pairsBelow_4 : decode cX0_pairsBelow 4 = .ok (.lushr, 1) := by decide +kernel
theorem dX0_pairsBelow_5 : decode cX0_pairsBelow 5 = .ok (.land, 1) := by decide +kernel
theorem dX0_pairsBelow_6 : decode cX0_pairsBelow 6 = .ok (.lreturn, 1) := by decide +kernel
theorem dX0_countPairs_0 : decode cX0_countPairs 0 = .ok (.lload_n 0, 1) := by decide +kernel
theorem dX0_countPairs_1 : decode cX0_countPairs 1 = .ok (.invokestatic 27, 3) := by decide +kernel
theorem dX0_countPairs_4 : decode cX0_countPairs 4 = .ok (.invokestatic 21, 3) := by decide +kernel
theorem dX0_countPairs_7 : decode cX0_countPairs 7 = .ok (.lload_n 0, 1) := by decide +kernel
theorem dX0_countPairs_8 : decode cX0_countPairs 8 = .ok (.invokestatic 30, 3) := by decide +kernel
theorem dX0_countPairs_11 : decode cX0_countPairs 11 = .ok (.invokestatic 21, 3) := by decide +kernel
theorem dX0_countPairs_14 : decode cX0_countPairs 14 = .ok (.iadd, 1) := by decide +kernel
theorem dX0_countPairs_15 : decode cX0_countPairs 15 = .ok (.ireturn, 1) := by decide +kernel
theorem dX0_beside_0 : decode cX0_beside 0 = .ok (.lload_n 0, 1) := by decide +kernel
theorem dX0_beside_1 : decode cX0_beside 1 = .ok (.iconst 1, 1) := by decide +kernel
theorem dX0_beside_2 : decode cX0_beside 2 = .ok (.lshl, 1) := by decide +kernel
theorem dX0_beside_3 : decode cX0_beside 3 = .ok (.lload_n 0, 1) := by decide +kernel
theorem dX0_beside_4 : decode cX0_beside 4 = .ok (.iconst 1, 1) := by decide +kernel
theorem dX0_beside_5 : decode cX0_beside 5 = .ok (.lushr, 1) := by decide +kernel
theorem dX0_beside_6 : decode cX0_beside 6 = .ok (.lor, 1) := by decide +kernel
theorem dX0_beside_7 : decode cX0_beside 7 = .ok (.lload_n 0, 1) := by decide +kernel
theorem dX0_beside_8 : decode cX0_beside 8 = .ok (.bipush 8, 2) := by decide +kernel
theorem dX0_beside_10 : decode cX0_beside 10 = .ok (.lshl, 1) := by decide +kernel
theorem dX0_beside_11 : decode cX0_beside 11 = .ok (.lor, 1) := by decide +kernel
theorem dX0_beside_12 : decode cX0_beside 12 = .ok (.lload_n 0, 1) := by decide +kernel
theorem dX0_beside_13 : decode cX0_beside 13 = .ok (.bipush 8, 2) := by decide +kernel
theorem dX0_beside_15 : decode cX0_beside 15 = .ok (.lushr, 1) := by decide +kernel
theorem dX0_beside_16 : decode cX0_beside 16 = .ok (.lor, 1) := by decide +kernel
theorem dX0_beside_17 : decode cX0_beside 17 = .ok (.lreturn, 1) := by decide +kernel
theorem dX0_countInnerCorners_0 : decode cX0_countInnerCorners 0 = .ok (.lload_n 0, 1) := by decide +kernel
theorem dX0_countInnerCorners_1 : decode cX0_countInnerCorners 1 = .ok (.iconst 1, 1) := by decide +kernel
theorem dX0_countInnerCorners_2 : decode cX0_countInnerCorners 2 = .ok (.lushr, 1) := by decide +kernel
theorem dX0_countInnerCorners_3 : decode cX0_countInnerCorners 3 = .ok (.lstore_n 2, 1) := by decide +kernel
theorem dX0_countInnerCorners_4 : decode cX0_countInnerCorners 4 = .ok (.lload_n 0, 1) := by decide +kernel
theorem dX0_countInnerCorners_5 : decode cX0_countInnerCorners 5 = .ok (.bipush 8, 2) := by decide +kernel
theorem dX0_countInnerCorners_7 : decode cX0_countInnerCorners 7 = .ok (.lushr, 1) := by decide +kernel
theorem dX0_countInnerCorners_8 : decode cX0_countInnerCorners 8 = .ok (.lstore 4, 2) := by decide +kernel
theorem dX0_countInnerCorners_10 : decode cX0_countInnerCorners 10 = .ok (.lload_n 0, 1) := by decide +kernel
theorem dX0_countInnerCorners_11 : decode cX0_countInnerCorners 11 = .ok (.bipush 9, 2) := by decide +kernel
theorem dX0_countInnerCorners_13 : decode cX0_countInnerCorners 13 = .ok (.lushr, 1) := by decide +kernel
theorem dX0_countInnerCorners_14 : decode cX0_countInnerCorners 14 = .ok (.lstore 6, 2) := by decide +kernel
theorem dX0_countInnerCorners_16 : decode cX0_countInnerCorners 16 = .ok (.lload_n 0, 1) := by decide +kernel
theorem dX0_countInnerCorners_17 : decode cX0_countInnerCorners 17 = .ok (.lload_n 2, 1) := by decide +kernel
theorem dX0_countInnerCorners_18 : decode cX0_countInnerCorners 18 = .ok (.land, 1) := by decide +kernel
theorem dX0_countInnerCorners_19 : decode cX0_countInnerCorners 19 = .ok (.lload 4, 2) := by decide +kernel
theorem dX0_countInnerCorners_21 : decode cX0_countInnerCorners 21 = .ok (.lload 6, 2) := by decide +kernel
theorem dX0_countInnerCorners_23 : decode cX0_countInnerCorners 23 = .ok (.lxor, 1) := by decide +kernel
theorem dX0_countInnerCorners_24 : decode cX0_countInnerCorners 24 = .ok (.land, 1) := by decide +kernel
theorem dX0_countInnerCorners_25 : decode cX0_countInnerCorners 25 = .ok (.lstore 8, 2) := by decide +kernel
theorem dX0_countInnerCorners_27 : decode cX0_countInnerCorners 27 = .ok (.lload_n 0, 1) := by decide +kernel
theorem dX0_countInnerCorners_28 : decode cX0_countInnerCorners 28 = .ok (.lload_n 2, 1) := by decide +kernel
theorem dX0_countInnerCorners_29 : decode cX0_countInnerCorners 29 = .ok (.lxor, 1) := by decide +kernel
theorem dX0_countInnerCorners_30 : decode cX0_countInnerCorners 30 = .ok (.lload 4, 2) := by decide +kernel
theorem dX0_countInnerCorners_32 : decode cX0_countInnerCorners 32 = .ok (.land, 1) := by decide +kernel
theorem dX0_countInnerCorners_33 : decode cX0_countInnerCorners 33 = .ok (.lload 6, 2) := by decide +kernel
theorem dX0_countInnerCorners_35 : decode cX0_countInnerCorners 35 = .ok (.land, 1) := by decide +kernel
theorem dX0_countInnerCorners_36 : decode cX0_countInnerCorners 36 = .ok (.lstore 10, 2) := by decide +kernel
theorem dX0_countInnerCorners_38 : decode cX0_countInnerCorners 38 = .ok (.lload 8, 2) := by decide +kernel
theorem dX0_countInnerCorners_40 : decode cX0_countInnerCorners 40 = .ok (.lload 10, 2) := by decide +kernel
theorem dX0_countInnerCorners_42 : decode cX0_countInnerCorners 42 = .ok (.lor, 1) := by decide +kernel
theorem dX0_countInnerCorners_43 : decode cX0_countInnerCorners 43 = .ok (.invokestatic 21, 3) := by decide +kernel
theorem dX0_countInnerCorners_46 : decode cX0_countInnerCorners 46 = .ok (.ireturn, 1) := by decide +kernel
theorem dX0_countHoles_0 : decode cX0_countHoles 0 = .ok (.lload_n 2, 1) := by decide +kernel
theorem dX0_countHoles_1 : decode cX0_countHoles 1 = .ok (.lload_n 0, 1) := by decide +kernel
theorem dX0_countHoles_2 : decode cX0_countHoles 2 = .ok (.ldc2_w 33, 3) := by decide +kernel
theorem dX0_countHoles_5 : decode cX0_countHoles 5 = .ok (.lxor, 1) := by decide +kernel
theorem dX0_countHoles_6 : decode cX0_countHoles 6 = .ok (.land, 1) := by decide +kernel
theorem dX0_countHoles_7 : decode cX0_countHoles 7 = .ok (.lstore 4, 2) := by decide +kernel
theorem dX0_countHoles_9 : decode cX0_countHoles 9 = .ok (.lload_n 2, 1) := by decide +kernel
theorem dX0_countHoles_10 : decode cX0_countHoles 10 = .ok (.lload_n 2, 1) := by decide +kernel
theorem dX0_countHoles_11 : decode cX0_countHoles 11 = .ok (.iconst 1, 1) := by decide +kernel
theorem dX0_countHoles_12 : decode cX0_countHoles 12 = .ok (.lshl, 1) := by decide +kernel
theorem dX0_countHoles_13 : decode cX0_countHoles 13 = .ok (.land, 1) := by decide +kernel
theorem dX0_countHoles_14 : decode cX0_countHoles 14 = .ok (.lload_n 2, 1) := by decide +kernel
theorem dX0_countHoles_15 : decode cX0_countHoles 15 = .ok (.iconst 1, 1) := by decide +kernel
theorem dX0_countHoles_16 : decode cX0_countHoles 16 = .ok (.lushr, 1) := by decide +kernel
theorem dX0_countHoles_17 : decode cX0_countHoles 17 = .ok (.land, 1) := by decide +kernel
theorem dX0_countHoles_18 : decode cX0_countHoles 18 = .ok (.lload_n 2, 1) := by decide +kernel
theorem dX0_countHoles_19 : decode cX0_countHoles 19 = .ok (.bipush 8, 2) := by decide +kernel
theorem dX0_countHoles_21 : decode cX0_countHoles 21 = .ok (.lshl, 1) := by decide +kernel
theorem dX0_countHoles_22 : decode cX0_countHoles 22 = .ok (.land, 1) := by decide +kernel
theorem dX0_countHoles_23 : decode cX0_countHoles 23 = .ok (.lload_n 2, 1) := by decide +kernel
theorem dX0_countHoles_24 : decode cX0_countHoles 24 = .ok (.bipush 8, 2) := by decide +kernel
theorem dX0_countHoles_26 : decode cX0_countHoles 26 = .ok (.lushr, 1) := by decide +kernel
theorem dX0_countHoles_27 : decode cX0_countHoles 27 = .ok (.land, 1) := by decide +kernel
theorem dX0_countHoles_28 : decode cX0_countHoles 28 = .ok (.lstore 6, 2) := by decide +kernel
theorem dX0_countHoles_30 : decode cX0_countHoles 30 = .ok (.lload 4, 2) := by decide +kernel
theorem dX0_countHoles_32 : decode cX0_countHoles 32 = .ok (.lload 4, 2) := by decide +kernel
theorem dX0_countHoles_34 : decode cX0_countHoles 34 = .ok (.lload 6, 2) := by decide +kernel
theorem dX0_countHoles_36 : decode cX0_countHoles 36 = .ok (.ldc2_w 33, 3) := by decide +kernel
theorem dX0_countHoles_39 : decode cX0_countHoles 39 = .ok (.lxor, 1) := by decide +kernel
theorem dX0_countHoles_40 : decode cX0_countHoles 40 = .ok (.land, 1) := by decide +kernel
theorem dX0_countHoles_41 : decode cX0_countHoles 41 = .ok (.lload 4, 2) := by decide +kernel
theorem dX0_countHoles_43 : decode cX0_countHoles 43 = .ok (.invokestatic 35, 3) := by decide +kernel
theorem dX0_countHoles_46 : decode cX0_countHoles 46 = .ok (.ldc2_w 33, 3) := by decide +kernel
theorem dX0_countHoles_49 : decode cX0_countHoles 49 = .ok (.lxor, 1) := by decide +kernel
theorem dX0_countHoles_50 : decode cX0_countHoles 50 = .ok (.land, 1) := by decide +kernel
theorem dX0_countHoles_51 : decode cX0_countHoles 51 = .ok (.lstore 8, 2) := by decide +kernel
theorem dX0_countHoles_53 : decode cX0_countHoles 53 = .ok (.iconst 0, 1) := by decide +kernel
theorem dX0_countHoles_54 : decode cX0_countHoles 54 = .ok (.istore 10, 2) := by decide +kernel
theorem dX0_countHoles_56 : decode cX0_countHoles 56 = .ok (.iconst 0, 1) := by decide +kernel
theorem dX0_countHoles_57 : decode cX0_countHoles 57 = .ok (.istore 11, 2) := by decide +kernel
theorem dX0_countHoles_59 : decode cX0_countHoles 59 = .ok (.iload 11, 2) := by decide +kernel
theorem dX0_countHoles_61 : decode cX0_countHoles 61 = .ok (.bipush 49, 2) := by decide +kernel
theorem dX0_countHoles_63 : decode cX0_countHoles 63 = .ok (.if_icmp .ge 38, 3) := by decide +kernel
theorem dX0_countHoles_66 : decode cX0_countHoles 66 = .ok (.lload 8, 2) := by decide +kernel
theorem dX0_countHoles_68 : decode cX0_countHoles 68 = .ok (.lconst 0, 1) := by decide +kernel
theorem dX0_countHoles_69 : decode cX0_countHoles 69 = .ok (.lcmp, 1) := by decide +kernel
theorem dX0_countHoles_70 : decode cX0_countHoles 70 = .ok (.ifCond .eq 31, 3) := by decide +kernel
theorem dX0_countHoles_73 : decode cX0_countHoles 73 = .ok (.lload 8, 2) := by decide +kernel
theorem dX0_countHoles_75 : decode cX0_countHoles 75 = .ok (.lload 8, 2) := by decide +kernel
theorem dX0_countHoles_77 : decode cX0_countHoles 77 = .ok (.invokestatic 17, 3) := by decide +kernel
theorem dX0_countHoles_80 : decode cX0_countHoles 80 = .ok (.lload 8, 2) := by decide +kernel
theorem dX0_countHoles_82 : decode cX0_countHoles 82 = .ok (.invokestatic 35, 3) := by decide +kernel
theorem dX0_countHoles_85 : decode cX0_countHoles 85 = .ok (.ldc2_w 33, 3) := by decide +kernel
theorem dX0_countHoles_88 : decode cX0_countHoles 88 = .ok (.lxor, 1) := by decide +kernel
theorem dX0_countHoles_89 : decode cX0_countHoles 89 = .ok (.land, 1) := by decide +kernel
theorem dX0_countHoles_90 : decode cX0_countHoles 90 = .ok (.lstore 8, 2) := by decide +kernel
theorem dX0_countHoles_92 : decode cX0_countHoles 92 = .ok (.iinc 10 1, 3) := by decide +kernel
theorem dX0_countHoles_95 : decode cX0_countHoles 95 = .ok (.iinc 11 1, 3) := by decide +kernel
theorem dX0_countHoles_98 : decode cX0_countHoles 98 = .ok (.goto (-39), 3) := by decide +kernel
theorem dX0_countHoles_101 : decode cX0_countHoles 101 = .ok (.iload 10, 2) := by decide +kernel
theorem dX0_countHoles_103 : decode cX0_countHoles 103 = .ok (.ireturn, 1) := by decide +kernel
theorem dX0_connected_0 : decode cX0_connected 0 = .ok (.lload_n 0, 1) := by decide +kernel
theorem dX0_connected_1 : decode cX0_connected 1 = .ok (.lstore 4, 2) := by decide +kernel
theorem dX0_connected_3 : decode cX0_connected 3 = .ok (.iconst 0, 1) := by decide +kernel
theorem dX0_connected_4 : decode cX0_connected 4 = .ok (.istore 6, 2) := by decide +kernel
theorem dX0_connected_6 : decode cX0_connected 6 = .ok (.iload 6, 2) := by decide +kernel
theorem dX0_connected_8 : decode cX0_connected 8 = .ok (.bipush 49, 2) := by decide +kernel
theorem dX0_connected_10 : decode cX0_connected 10 = .ok (.if_icmp .ge 56, 3) := by decide +kernel
theorem dX0_connected_13 : decode cX0_connected 13 = .ok (.lload 4, 2) := by decide +kernel
theorem dX0_connected_15 : decode cX0_connected 15 = .ok (.lload 4, 2) := by decide +kernel
theorem dX0_connected_17 : decode cX0_connected 17 = .ok (.iconst 1, 1) := by decide +kernel
theorem dX0_connected_18 : decode cX0_connected 18 = .ok (.lshl, 1) := by decide +kernel
theorem dX0_connected_19 : decode cX0_connected 19 = .ok (.lor, 1) := by decide +kernel
theorem dX0_connected_20 : decode cX0_connected 20 = .ok (.lload 4, 2) := by decide +kernel
theorem dX0_connected_22 : decode cX0_connected 22 = .ok (.iconst 1, 1) := by decide +kernel
theorem dX0_connected_23 : decode cX0_connected 23 = .ok (.lushr, 1) := by decide +kernel
theorem dX0_connected_24 : decode cX0_connected 24 = .ok (.lor, 1) := by decide +kernel
theorem dX0_connected_25 : decode cX0_connected 25 = .ok (.lstore 7, 2) := by decide +kernel
theorem dX0_connected_27 : decode cX0_connected 27 = .ok (.lload 7, 2) := by decide +kernel
theorem dX0_connected_29 : decode cX0_connected 29 = .ok (.lload 7, 2) := by decide +kernel
theorem dX0_connected_31 : decode cX0_connected 31 = .ok (.bipush 8, 2) := by decide +kernel
theorem dX0_connected_33 : decode cX0_connected 33 = .ok (.lshl, 1) := by decide +kernel
theorem dX0_connected_34 : decode cX0_connected 34 = .ok (.lor, 1) := by decide +kernel
theorem dX0_connected_35 : decode cX0_connected 35 = .ok (.lload 7, 2) := by decide +kernel
theorem dX0_connected_37 : decode cX0_connected 37 = .ok (.bipush 8, 2) := by decide +kernel
theorem dX0_connected_39 : decode cX0_connected 39 = .ok (.lushr, 1) := by decide +kernel
theorem dX0_connected_40 : decode cX0_connected 40 = .ok (.lor, 1) := by decide +kernel
theorem dX0_connected_41 : decode cX0_connected 41 = .ok (.lload_n 2, 1) := by decide +kernel
theorem dX0_connected_42 : decode cX0_connected 42 = .ok (.land, 1) := by decide +kernel
theorem dX0_connected_43 : decode cX0_connected 43 = .ok (.lstore 9, 2) := by decide +kernel
theorem dX0_connected_45 : decode cX0_connected 45 = .ok (.lload 9, 2) := by decide +kernel
theorem dX0_connected_47 : decode cX0_connected 47 = .ok (.lload 4, 2) := by decide +kernel
theorem dX0_connected_49 : decode cX0_connected 49 = .ok (.lcmp, 1) := by decide +kernel
theorem dX0_connected_50 : decode cX0_connected 50 = .ok (.ifCond .ne 6, 3) := by decide +kernel
theorem dX0_connected_53 : decode cX0_connected 53 = .ok (.goto 13, 3) := by decide +kernel
theorem dX0_connected_56 : decode cX0_connected 56 = .ok (.lload 9, 2) := by decide +kernel
theorem dX0_connected_58 : decode cX0_connected 58 = .ok (.lstore 4, 2) := by decide +kernel
theorem dX0_connected_60 : decode cX0_connected 60 = .ok (.iinc 6 1, 3) := by decide +kernel
theorem dX0_connected_63 : decode cX0_connected 63 = .ok (.goto (-57), 3) := by decide +kernel
theorem dX0_connected_66 : decode cX0_connected 66 = .ok (.lload 4, 2) := by decide +kernel
theorem dX0_connected_68 : decode cX0_connected 68 = .ok (.lreturn, 1) := by decide +kernel
theorem dX1_init_0 : decode cX1_init 0 = .ok (.aload_n 0, 1) := by decide +kernel
theorem dX1_init_1 : decode cX1_init 1 = .ok (.invokespecial 1, 3) := by decide +kernel
theorem dX1_init_4 : decode cX1_init 4 = .ok (.aload_n 0, 1) := by decide +kernel
theorem dX1_init_5 : decode cX1_init 5 = .ok (.bipush 49, 2) := by decide +kernel
theorem dX1_init_7 : decode cX1_init 7 = .ok (.newarray .int, 2) := by decide +kernel
theorem dX1_init_9 : decode cX1_init 9 = .ok (.putfield 9, 3) := by decide +kernel
theorem dX1_init_12 : decode cX1_init 12 = .ok (.aload_n 0, 1) := by decide +kernel
theorem dX1_init_13 : decode cX1_init 13 = .ok (.bipush 49, 2) := by decide +kernel
theorem dX1_init_15 : decode cX1_init 15 = .ok (.newarray .int, 2) := by decide +kernel
theorem dX1_init_17 : decode cX1_init 17 = .ok (.putfield 15, 3) := by decide +kernel
theorem dX1_init_20 : decode cX1_init 20 = .ok (.aload_n 0, 1) := by decide +kernel
theorem dX1_init_21 : decode cX1_init 21 = .ok (.aload_n 1, 1) := by decide +kernel
theorem dX1_init_22 : decode cX1_init 22 = .ok (.putfield 18, 3) := by decide +kernel
theorem dX1_init_25 : decode cX1_init 25 = .ok (.return_, 1) := by decide +kernel
theorem dX1_hasOrder_0 : decode cX1_hasOrder 0 = .ok (.iload_n 1, 1) := by decide +kernel
theorem dX1_hasOrder_1 : decode cX1_hasOrder 1 = .ok (.ifCond .lt 12, 3) := by decide +kernel
theorem dX1_hasOrder_4 : decode cX1_hasOrder 4 = .ok (.iload_n 1, 1) := by decide +kernel
theorem dX1_hasOrder_5 : decode cX1_hasOrder 5 = .ok (.iconst 3, 1) := by decide +kernel
theorem dX1_hasOrder_6 : decode cX1_hasOrder 6 = .ok (.if_icmp .ge 7, 3) := by decide +kernel
theorem dX1_hasOrder_9 : decode cX1_hasOrder 9 = .ok (.iconst 1, 1) := by decide +kernel
theorem dX1_hasOrder_10 : decode cX1_hasOrder 10 = .ok (.goto 4, 3) := by decide +kernel
theorem dX1_hasOrder_13 : decode cX1_hasOrder 13 = .ok (.iconst 0, 1) := by decide +kernel
theorem dX1_hasOrder_14 : decode cX1_hasOrder 14 = .ok (.ireturn, 1) := by decide +kernel
theorem dX1_paint_0 : decode cX1_paint 0 = .ok (.iload_n 1, 1) := by decide +kernel
theorem dX1_paint_1 : decode cX1_paint 1 = .ok (.ifCond .ne 10, 3) := by decide +kernel
theorem dX1_paint_4 : decode cX1_paint 4 = .ok (.aload_n 0, 1) := by decide +kernel
theorem dX1_paint_5 : decode cX1_paint 5 = .ok (.invokevirtual 22, 3) := by decide +kernel
theorem dX1_paint_8 : decode cX1_paint 8 = .ok (.goto 19, 3) := by decide +kernel
theorem dX1_paint_11 : decode cX1_paint 11 = .ok (.iload_n 1, 1) := by decide +kernel
theorem dX1_paint_12 : decode cX1_paint 12 = .ok (.iconst 1, 1) := by decide +kernel
theorem dX1_paint_13 : decode cX1_paint 13 = .ok (.if_icmp .ne 10, 3) := by decide +kernel
theorem dX1_paint_16 : decode cX1_paint 16 = .ok (.aload_n 0, 1) := by decide +kernel
theorem dX1_paint_17 : decode cX1_paint 17 = .ok (.invokevirtual 25, 3) := by decide +kernel
theorem dX1_paint_20 : decode cX1_paint 20 = .ok (.goto 7, 3) := by decide +kernel
theorem dX1_paint_23 : decode cX1_paint 23 = .ok (.aload_n 0, 1) := by decide +kernel
theorem dX1_paint_24 : decode cX1_paint 24 = .ok (.invokevirtual 28, 3) := by decide +kernel
theorem dX1_paint_27 : decode cX1_paint 27 = .ok (.iconst 0, 1) := by decide +kernel
theorem dX1_paint_28 : decode cX1_paint 28 = .ok (.istore_n 2, 1) := by decide +kernel
theorem dX1_paint_29 : decode cX1_paint 29 = .ok (.iload_n 2, 1) := by decide +kernel
theorem dX1_paint_30 : decode cX1_paint 30 = .ok (.aload_n 0, 1) := by decide +kernel
theorem dX1_paint_31 : decode cX1_paint 31 = .ok (.getfield 18, 3) := by decide +kernel
theorem dX1_paint_34 : decode cX1_paint 34 = .ok (.getfield 31, 3) := by decide +kernel
theorem dX1_paint_37 : decode cX1_paint 37 = .ok (.if_icmp .ge 16, 3) := by decide +kernel
theorem dX1_paint_40 : decode cX1_paint 40 = .ok (.aload_n 0, 1) := by decide +kernel
theorem dX1_paint_41 : decode cX1_paint 41 = .ok (.getfield 15, 3) := by decide +kernel
theorem dX1_paint_44 : decode cX1_paint 44 = .ok (.iload_n 2, 1) := by decide +kernel
theorem dX1_paint_45 : decode cX1_paint 45 = .ok (.iconst (-1), 1) := by decide +kernel
theorem dX1_paint_46 : decode cX1_paint 46 = .ok (.iastore, 1) := by decide +kernel
theorem dX1_paint_47 : decode cX1_paint 47 = .ok (.iinc 2 1, 3) := by decide +kernel
theorem dX1_paint_50 : decode cX1_paint 50 = .ok (.goto (-21), 3) := by decide +kernel
theorem dX1_paint_53 : decode cX1_paint 53 = .ok (.lconst 0, 1) := by decide +kernel
theorem dX1_paint_54 : decode cX1_paint 54 = .ok (.lstore_n 2, 1) := by decide +kernel
theorem dX1_paint_55 : decode cX1_paint 55 = .ok (.iconst 0, 1) := by decide +kernel
theorem dX1_paint_56 : decode cX1_paint 56 = .ok (.istore 4, 2) := by decide +kernel
theorem dX1_paint_58 : decode cX1_paint 58 = .ok (.iload 4, 2) := by decide +kernel
theorem dX1_paint_60 : decode cX1_paint 60 = .ok (.aload_n 0, 1) := by decide +kernel
theorem dX1_paint_61 : decode cX1_paint 61 = .ok (.getfield 18, 3) := by decide +kernel
theorem dX1_paint_64 : decode cX1_paint 64 = .ok (.getfield 31, 3) := by decide +kernel
theorem dX1_paint_67 : decode cX1_paint 67 = .ok (.if_icmp .ge 43, 3) := by decide +kernel
theorem dX1_paint_70 : decode cX1_paint 70 = .ok (.aload_n 0, 1) := by decide +kernel
theorem dX1_paint_71 : decode cX1_paint 71 = .ok (.getfield 9, 3) := by decide +kernel
theorem dX1_paint_74 : decode cX1_paint 74 = .ok (.iload 4, 2) := by decide +kernel
theorem dX1_paint_76 : decode cX1_paint 76 = .ok (.iaload, 1) := by decide +kernel
theorem dX1_paint_77 : decode cX1_paint 77 = .ok (.istore 5, 2) := by decide +kernel
theorem dX1_paint_79 : decode cX1_paint 79 = .ok (.aload_n 0, 1) := by decide +kernel
theorem dX1_paint_80 : decode cX1_paint 80 = .ok (.getfield 15, 3) := by decide +kernel
theorem dX1_paint_83 : decode cX1_paint 83 = .ok (.iload 5, 2) := by decide +kernel
theorem dX1_paint_85 : decode cX1_paint 85 = .ok (.aload_n 0, 1) := by decide +kernel
theorem dX1_paint_86 : decode cX1_paint 86 = .ok (.iload 5, 2) := by decide +kernel
theorem dX1_paint_88 : decode cX1_paint 88 = .ok (.invokevirtual 37, 3) := by decide +kernel
theorem dX1_paint_91 : decode cX1_paint 91 = .ok (.iastore, 1) := by decide +kernel
theorem dX1_paint_92 : decode cX1_paint 92 = .ok (.lload_n 2, 1) := by decide +kernel
theorem dX1_paint_93 : decode cX1_paint 93 = .ok (.lconst 1, 1) := by decide +kernel
theorem dX1_paint_94 : decode cX1_paint 94 = .ok (.aload_n 0, 1) := by decide +kernel
theorem dX1_paint_95 : decode cX1_paint 95 = .ok (.getfield 15, 3) := by decide +kernel
theorem dX1_paint_98 : decode cX1_paint 98 = .ok (.iload 5, 2) := by decide +kernel
theorem dX1_paint_100 : decode cX1_paint 100 = .ok (.iaload, 1) := by decide +kernel
theorem dX1_paint_101 : decode cX1_paint 101 = .ok (.lshl, 1) := by decide +kernel
theorem dX1_paint_102 : decode cX1_paint 102 = .ok (.lor, 1) := by decide +kernel
theorem dX1_paint_103 : decode cX1_paint 103 = .ok (.lstore_n 2, 1) := by decide +kernel
theorem dX1_paint_104 : decode cX1_paint 104 = .ok (.iinc 4 1, 3) := by decide +kernel
theorem dX1_paint_107 : decode cX1_paint 107 = .ok (.goto (-49), 3) := by decide +kernel
theorem dX1_paint_110 : decode cX1_paint 110 = .ok (.lload_n 2, 1) := by decide +kernel
theorem dX1_paint_111 : decode cX1_paint 111 = .ok (.invokestatic 41, 3) := by decide +kernel
theorem dX1_paint_114 : decode cX1_paint 114 = .ok (.ireturn, 1) := by decide +kernel
theorem dX1_smallestFree_0 : decode cX1_smallestFree 0 = .ok (.lconst 0, 1) := by decide +kernel
theorem dX1_smallestFree_1 : decode cX1_smallestFree 1 = .ok (.lstore_n 2, 1) := by decide +kernel
theorem dX1_smallestFree_2 : decode cX1_smallestFree 2 = .ok (.iconst 0, 1) := by decide +kernel
theorem dX1_smallestFree_3 : decode cX1_smallestFree 3 = .ok (.istore 4, 2) := by decide +kernel
theorem dX1_smallestFree_5 : decode cX1_smallestFree 5 = .ok (.iload 4, 2) := by decide +kernel
theorem dX1_smallestFree_7 : decode cX1_smallestFree 7 = .ok (.aload_n 0, 1) := by decide +kernel
theorem dX1_smallestFree_8 : decode cX1_smallestFree 8 = .ok (.getfield 18, 3) := by decide +kernel
theorem dX1_smallestFree_11 : decode cX1_smallestFree 11 = .ok (.getfield 31, 3) := by decide +kernel
theorem dX1_smallestFree_14 : decode cX1_smallestFree 14 = .ok (.if_icmp .ge 63, 3) := by decide +kernel
theorem dX1_smallestFree_17 : decode cX1_smallestFree 17 = .ok (.aload_n 0, 1) := by decide +kernel
theorem dX1_smallestFree_18 : decode cX1_smallestFree 18 = .ok (.getfield 18, 3) := by decide +kernel
theorem dX1_smallestFree_21 : decode cX1_smallestFree 21 = .ok (.getfield 47, 3) := by decide +kernel
theorem dX1_smallestFree_24 : decode cX1_smallestFree 24 = .ok (.iload_n 1, 1) := by decide +kernel
theorem dX1_smallestFree_25 : decode cX1_smallestFree 25 = .ok (.laload, 1) := by decide +kernel
theorem dX1_smallestFree_26 : decode cX1_smallestFree 26 = .ok (.lconst 1, 1) := by decide +kernel
theorem dX1_smallestFree_27 : decode cX1_smallestFree 27 = .ok (.iload 4, 2) := by decide +kernel
theorem dX1_smallestFree_29 : decode cX1_smallestFree 29 = .ok (.lshl, 1) := by decide +kernel
theorem dX1_smallestFree_30 : decode cX1_smallestFree 30 = .ok (.land, 1) := by decide +kernel
theorem dX1_smallestFree_31 : decode cX1_smallestFree 31 = .ok (.lconst 0, 1) := by decide +kernel
theorem dX1_smallestFree_32 : decode cX1_smallestFree 32 = .ok (.lcmp, 1) := by decide +kernel
theorem dX1_smallestFree_33 : decode cX1_smallestFree 33 = .ok (.ifCond .eq 7, 3) := by decide +kernel
theorem dX1_smallestFree_36 : decode cX1_smallestFree 36 = .ok (.iconst 1, 1) := by decide +kernel
theorem dX1_smallestFree_37 : decode cX1_smallestFree 37 = .ok (.goto 4, 3) := by decide +kernel
theorem dX1_smallestFree_40 : decode cX1_smallestFree 40 = .ok (.iconst 0, 1) := by decide +kernel
theorem dX1_smallestFree_41 : decode cX1_smallestFree 41 = .ok (.istore 5, 2) := by decide +kernel
theorem dX1_smallestFree_43 : decode cX1_smallestFree 43 = .ok (.iload 5, 2) := by decide +kernel
theorem dX1_smallestFree_45 : decode cX1_smallestFree 45 = .ok (.ifCond .eq 26, 3) := by decide +kernel
theorem dX1_smallestFree_48 : decode cX1_smallestFree 48 = .ok (.aload_n 0, 1) := by decide +kernel
theorem dX1_smallestFree_49 : decode cX1_smallestFree 49 = .ok (.getfield 15, 3) := by decide +kernel
theorem dX1_smallestFree_52 : decode cX1_smallestFree 52 = .ok (.iload 4, 2) := by decide +kernel
theorem dX1_smallestFree_54 : decode cX1_smallestFree 54 = .ok (.iaload, 1) := by decide +kernel
theorem dX1_smallestFree_55 : decode cX1_smallestFree 55 = .ok (.iconst (-1), 1) := by decide +kernel
theorem dX1_smallestFree_56 : decode cX1_smallestFree 56 = .ok (.if_icmp .eq 15, 3) := by decide +kernel
theorem dX1_smallestFree_59 : decode cX1_smallestFree 59 = .ok (.lload_n 2, 1) := by decide +kernel
theorem dX1_smallestFree_60 : decode cX1_smallestFree 60 = .ok (.lconst 1, 1) := by decide +kernel
theorem dX1_smallestFree_61 : decode cX1_smallestFree 61 = .ok (.aload_n 0, 1) := by decide +kernel
theorem dX1_smallestFree_62 : decode cX1_smallestFree 62 = .ok (.getfield 15, 3) := by decide +kernel
theorem dX1_smallestFree_65 : decode cX1_smallestFree 65 = .ok (.iload 4, 2) := by decide +kernel
theorem dX1_smallestFree_67 : decode cX1_smallestFree 67 = .ok (.iaload, 1) := by decide +kernel
theorem dX1_smallestFree_68 : decode cX1_smallestFree 68 = .ok (.lshl, 1) := by decide +kernel
theorem dX1_smallestFree_69 : decode cX1_smallestFree 69 = .ok (.lor, 1) := by decide +kernel
theorem dX1_smallestFree_70 : decode cX1_smallestFree 70 = .ok (.lstore_n 2, 1) := by decide +kernel
theorem dX1_smallestFree_71 : decode cX1_smallestFree 71 = .ok (.iinc 4 1, 3) := by decide +kernel
theorem dX1_smallestFree_74 : decode cX1_smallestFree 74 = .ok (.goto (-69), 3) := by decide +kernel
theorem dX1_smallestFree_77 : decode cX1_smallestFree 77 = .ok (.lload_n 2, 1) := by decide +kernel
theorem dX1_smallestFree_78 : decode cX1_smallestFree 78 = .ok (.ldc2_w 51, 3) := by decide +kernel
theorem dX1_smallestFree_81 : decode cX1_smallestFree 81 = .ok (.lxor, 1) := by decide +kernel
theorem dX1_smallestFree_82 : decode cX1_smallestFree 82 = .ok (.invokestatic 53, 3) := by decide +kernel
theorem dX1_smallestFree_85 : decode cX1_smallestFree 85 = .ok (.ireturn, 1) := by decide +kernel
theorem dX1_arrangeByNumber_0 : decode cX1_arrangeByNumber 0 = .ok (.iconst 0, 1) := by decide +kernel
theorem dX1_arrangeByNumber_1 : decode cX1_arrangeByNumber 1 = .ok (.istore_n 1, 1) := by decide +kernel
theorem dX1_arrangeByNumber_2 : decode cX1_arrangeByNumber 2 = .ok (.iload_n 1, 1) := by decide +kernel
theorem dX1_arrangeByNumber_3 : decode cX1_arrangeByNumber 3 = .ok (.aload_n 0, 1) := by decide +kernel
theorem dX1_arrangeByNumber_4 : decode cX1_arrangeByNumber 4 = .ok (.getfield 18, 3) := by decide +kernel
theorem dX1_arrangeByNumber_7 : decode cX1_arrangeByNumber 7 = .ok (.getfield 31, 3) := by decide +kernel
theorem dX1_arrangeByNumber_10 : decode cX1_arrangeByNumber 10 = .ok (.if_icmp .ge 16, 3) := by decide +kernel
theorem dX1_arrangeByNumber_13 : decode cX1_arrangeByNumber 13 = .ok (.aload_n 0, 1) := by decide +kernel
theorem dX1_arrangeByNumber_14 : decode cX1_arrangeByNumber 14 = .ok (.getfield 9, 3) := by decide +kernel
theorem dX1_arrangeByNumber_17 : decode cX1_arrangeByNumber 17 = .ok (.iload_n 1, 1) := by decide +kernel
theorem dX1_arrangeByNumber_18 : decode cX1_arrangeByNumber 18 = .ok (.iload_n 1, 1) := by decide +kernel
theorem dX1_arrangeByNumber_19 : decode cX1_arrangeByNumber 19 = .ok (.iastore, 1) := by decide +kernel
theorem dX1_arrangeByNumber_20 : decode cX1_arrangeByNumber 20 = .ok (.iinc 1 1, 3) := by decide +kernel
theorem dX1_arrangeByNumber_23 : decode cX1_arrangeByNumber 23 = .ok (.goto (-21), 3) := by decide +kernel
theorem dX1_arrangeByNumber_26 : decode cX1_arrangeByNumber 26 = .ok (.return_, 1) := by decide +kernel
theorem dX1_arrangeByNeighbours_0 : decode cX1_arrangeByNeighbours 0 = .ok (.aload_n 0, 1) := by decide +kernel
theorem dX1_arrangeByNeighbours_1 : decode cX1_arrangeByNeighbours 1 = .ok (.getfield 18, 3) := by decide +kernel
theorem dX1_arrangeByNeighbours_4 : decode cX1_arrangeByNeighbours 4 = .ok (.invokevirtual 56, 3) := by decide +kernel
theorem dX1_arrangeByNeighbours_7 : decode cX1_arrangeByNeighbours 7 = .ok (.lstore_n 1, 1) := by decide +kernel
theorem dX1_arrangeByNeighbours_8 : decode cX1_arrangeByNeighbours 8 = .ok (.iconst 0, 1) := by decide +kernel
theorem dX1_arrangeByNeighbours_9 : decode cX1_arrangeByNeighbours 9 = .ok (.istore_n 3, 1) := by decide +kernel
theorem dX1_arrangeByNeighbours_10 : decode cX1_arrangeByNeighbours 10 = .ok (.iload_n 3, 1) := by decide +kernel
theorem dX1_arrangeByNeighbours_11 : decode cX1_arrangeByNeighbours 11 = .ok (.aload_n 0, 1) := by decide +kernel
theorem dX1_arrangeByNeighbours_12 : decode cX1_arrangeByNeighbours 12 = .ok (.getfield 18, 3) := by decide +kernel
theorem dX1_arrangeByNeighbours_15 : decode cX1_arrangeByNeighbours 15 = .ok (.getfield 31, 3) := by decide +kernel
theorem dX1_arrangeByNeighbours_18 : decode cX1_arrangeByNeighbours 18 = .ok (.if_icmp .ge 35, 3) := by decide +kernel
theorem dX1_arrangeByNeighbours_21 : decode cX1_arrangeByNeighbours 21 = .ok (.aload_n 0, 1) := by decide +kernel
theorem dX1_arrangeByNeighbours_22 : decode cX1_arrangeByNeighbours 22 = .ok (.getfield 9, 3) := by decide +kernel
theorem dX1_arrangeByNeighbours_25 : decode cX1_arrangeByNeighbours 25 = .ok (.iload_n 3, 1) := by decide +kernel
theorem dX1_arrangeByNeighbours_26 : decode cX1_arrangeByNeighbours 26 = .ok (.aload_n 0, 1) := by decide +kernel
theorem dX1_arrangeByNeighbours_27 : decode cX1_arrangeByNeighbours 27 = .ok (.lload_n 1, 1) := by decide +kernel
theorem dX1_arrangeByNeighbours_28 : decode cX1_arrangeByNeighbours 28 = .ok (.invokevirtual 60, 3) := by decide +kernel
theorem dX1_arrangeByNeighbours_31 : decode cX1_arrangeByNeighbours 31 = .ok (.iastore, 1) := by decide +kernel
theorem dX1_arrangeByNeighbours_32 : decode cX1_arrangeByNeighbours 32 = .ok (.lload_n 1, 1) := by decide +kernel
theorem dX1_arrangeByNeighbours_33 : decode cX1_arrangeByNeighbours 33 = .ok (.lconst 1, 1) := by decide +kernel
theorem dX1_arrangeByNeighbours_34 : decode cX1_arrangeByNeighbours 34 = .ok (.aload_n 0, 1) := by decide +kernel
theorem dX1_arrangeByNeighbours_35 : decode cX1_arrangeByNeighbours 35 = .ok (.getfield 9, 3) := by decide +kernel
theorem dX1_arrangeByNeighbours_38 : decode cX1_arrangeByNeighbours 38 = .ok (.iload_n 3, 1) := by decide +kernel
theorem dX1_arrangeByNeighbours_39 : decode cX1_arrangeByNeighbours 39 = .ok (.iaload, 1) := by decide +kernel
theorem dX1_arrangeByNeighbours_40 : decode cX1_arrangeByNeighbours 40 = .ok (.lshl, 1) := by decide +kernel
theorem dX1_arrangeByNeighbours_41 : decode cX1_arrangeByNeighbours 41 = .ok (.ldc2_w 51, 3) := by decide +kernel
theorem dX1_arrangeByNeighbours_44 : decode cX1_arrangeByNeighbours 44 = .ok (.lxor, 1) := by decide +kernel
theorem dX1_arrangeByNeighbours_45 : decode cX1_arrangeByNeighbours 45 = .ok (.land, 1) := by decide +kernel
theorem dX1_arrangeByNeighbours_46 : decode cX1_arrangeByNeighbours 46 = .ok (.lstore_n 1, 1) := by decide +kernel
theorem dX1_arrangeByNeighbours_47 : decode cX1_arrangeByNeighbours 47 = .ok (.iinc 3 1, 3) := by decide +kernel
theorem dX1_arrangeByNeighbours_50 : decode cX1_arrangeByNeighbours 50 = .ok (.goto (-40), 3) := by decide +kernel
theorem dX1_arrangeByNeighbours_53 : decode cX1_arrangeByNeighbours 53 = .ok (.return_, 1) := by decide +kernel
theorem dX1_arrangeByRemoval_0 : decode cX1_arrangeByRemoval 0 = .ok (.aload_n 0, 1) := by decide +kernel
theorem dX1_arrangeByRemoval_1 : decode cX1_arrangeByRemoval 1 = .ok (.getfield 18, 3) := by decide +kernel
theorem dX1_arrangeByRemoval_4 : decode cX1_arrangeByRemoval 4 = .ok (.invokevirtual 56, 3) := by decide +kernel
theorem dX1_arrangeByRemoval_7 : decode cX1_arrangeByRemoval 7 = .ok (.lstore_n 1, 1) := by decide +kernel
theorem dX1_arrangeByRemoval_8 : decode cX1_arrangeByRemoval 8 = .ok (.aload_n 0, 1) := by decide +kernel
theorem dX1_arrangeByRemoval_9 : decode cX1_arrangeByRemoval 9 = .ok (.getfield 18, 3) := by decide +kernel
theorem dX1_arrangeByRemoval_12 : decode cX1_arrangeByRemoval 12 = .ok (.getfield 31, 3) := by decide +kernel
theorem dX1_arrangeByRemoval_15 : decode cX1_arrangeByRemoval 15 = .ok (.iconst 1, 1) := by decide +kernel
theorem dX1_arrangeByRemoval_16 : decode cX1_arrangeByRemoval 16 = .ok (.isub, 1) := by decide +kernel
theorem dX1_arrangeByRemoval_17 : decode cX1_arrangeByRemoval 17 = .ok (.istore_n 3, 1) := by decide +kernel
theorem dX1_arrangeByRemoval_18 : decode cX1_arrangeByRemoval 18 = .ok (.iload_n 3, 1) := by decide +kernel
theorem dX1_arrangeByRemoval_19 : decode cX1_arrangeByRemoval 19 = .ok (.ifCond .lt 35, 3) := by decide +kernel
theorem dX1_arrangeByRemoval_22 : decode cX1_arrangeByRemoval 22 = .ok (.aload_n 0, 1) := by decide +kernel
theorem dX1_arrangeByRemoval_23 : decode cX1_arrangeByRemoval 23 = .ok (.getfield 9, 3) := by decide +kernel
theorem dX1_arrangeByRemoval_26 : decode cX1_arrangeByRemoval 26 = .ok (.iload_n 3, 1) := by decide +kernel
theorem dX1_arrangeByRemoval_27 : decode cX1_arrangeByRemoval 27 = .ok (.aload_n 0, 1) := by decide +kernel
theorem dX1_arrangeByRemoval_28 : decode cX1_arrangeByRemoval 28 = .ok (.lload_n 1, 1) := by decide +kernel
theorem dX1_arrangeByRemoval_29 : decode cX1_arrangeByRemoval 29 = .ok (.invokevirtual 63, 3) := by decide +kernel
theorem dX1_arrangeByRemoval_32 : decode cX1_arrangeByRemoval 32 = .ok (.iastore, 1) := by decide +kernel
theorem dX1_arrangeByRemoval_33 : decode cX1_arrangeByRemoval 33 = .ok (.lload_n 1, 1) := by decide +kernel
theorem dX1_arrangeByRemoval_34 : decode cX1_arrangeByRemoval 34 = .ok (.lconst 1, 1) := by decide +kernel
theorem dX1_arrangeByRemoval_35 : decode cX1_arrangeByRemoval 35 = .ok (.aload_n 0, 1) := by decide +kernel
theorem dX1_arrangeByRemoval_36 : decode cX1_arrangeByRemoval 36 = .ok (.getfield 9, 3) := by decide +kernel
theorem dX1_arrangeByRemoval_39 : decode cX1_arrangeByRemoval 39 = .ok (.iload_n 3, 1) := by decide +kernel
theorem dX1_arrangeByRemoval_40 : decode cX1_arrangeByRemoval 40 = .ok (.iaload, 1) := by decide +kernel
theorem dX1_arrangeByRemoval_41 : decode cX1_arrangeByRemoval 41 = .ok (.lshl, 1) := by decide +kernel
theorem dX1_arrangeByRemoval_42 : decode cX1_arrangeByRemoval 42 = .ok (.ldc2_w 51, 3) := by decide +kernel
theorem dX1_arrangeByRemoval_45 : decode cX1_arrangeByRemoval 45 = .ok (.lxor, 1) := by decide +kernel
theorem dX1_arrangeByRemoval_46 : decode cX1_arrangeByRemoval 46 = .ok (.land, 1) := by decide +kernel
theorem dX1_arrangeByRemoval_47 : decode cX1_arrangeByRemoval 47 = .ok (.lstore_n 1, 1) := by decide +kernel
theorem dX1_arrangeByRemoval_48 : decode cX1_arrangeByRemoval 48 = .ok (.iinc 3 (-1), 3) := by decide +kernel
theorem dX1_arrangeByRemoval_51 : decode cX1_arrangeByRemoval 51 = .ok (.goto (-33), 3) := by decide +kernel
theorem dX1_arrangeByRemoval_54 : decode cX1_arrangeByRemoval 54 = .ok (.return_, 1) := by decide +kernel
theorem dX1_mostNeighbours_0 : decode cX1_mostNeighbours 0 = .ok (.iconst 0, 1) := by decide +kernel
theorem dX1_mostNeighbours_1 : decode cX1_mostNeighbours 1 = .ok (.istore_n 3, 1) := by decide +kernel
theorem dX1_mostNeighbours_2 : decode cX1_mostNeighbours 2 = .ok (.iconst (-1), 1) := by decide +kernel
theorem dX1_mostNeighbours_3 : decode cX1_mostNeighbours 3 = .ok (.istore 4, 2) := by decide +kernel
theorem dX1_mostNeighbours_5 : decode cX1_mostNeighbours 5 = .ok (.iconst 0, 1) := by decide +kernel
theorem dX1_mostNeighbours_6 : decode cX1_mostNeighbours 6 = .ok (.istore 5, 2) := by decide +kernel
theorem dX1_mostNeighbours_8 : decode cX1_mostNeighbours 8 = .ok (.iload 5, 2) := by decide +kernel
theorem dX1_mostNeighbours_10 : decode cX1_mostNeighbours 10 = .ok (.aload_n 0, 1) := by decide +kernel
theorem dX1_mostNeighbours_11 : decode cX1_mostNeighbours 11 = .ok (.getfield 18, 3) := by decide +kernel
theorem dX1_mostNeighbours_14 : decode cX1_mostNeighbours 14 = .ok (.getfield 31, 3) := by decide +kernel
theorem dX1_mostNeighbours_17 : decode cX1_mostNeighbours 17 = .ok (.if_icmp .ge 49, 3) := by decide +kernel
theorem dX1_mostNeighbours_20 : decode cX1_mostNeighbours 20 = .ok (.aload_n 0, 1) := by decide +kernel
theorem dX1_mostNeighbours_21 : decode cX1_mostNeighbours 21 = .ok (.getfield 18, 3) := by decide +kernel
theorem dX1_mostNeighbours_24 : decode cX1_mostNeighbours 24 = .ok (.getfield 47, 3) := by decide +kernel
theorem dX1_mostNeighbours_27 : decode cX1_mostNeighbours 27 = .ok (.iload 5, 2) := by decide +kernel
theorem dX1_mostNeighbours_29 : decode cX1_mostNeighbours 29 = .ok (.laload, 1) := by decide +kernel
theorem dX1_mostNeighbours_30 : decode cX1_mostNeighbours 30 = .ok (.invokestatic 41, 3) := by decide +kernel
theorem dX1_mostNeighbours_33 : decode cX1_mostNeighbours 33 = .ok (.istore 6, 2) := by decide +kernel
theorem dX1_mostNeighbours_35 : decode cX1_mostNeighbours 35 = .ok (.lload_n 1, 1) := by decide +kernel
theorem dX1_mostNeighbours_36 : decode cX1_mostNeighbours 36 = .ok (.lconst 1, 1) := by decide +kernel
theorem dX1_mostNeighbours_37 : decode cX1_mostNeighbours 37 = .ok (.iload 5, 2) := by decide +kernel
theorem dX1_mostNeighbours_39 : decode cX1_mostNeighbours 39 = .ok (.lshl, 1) := by decide +kernel
theorem dX1_mostNeighbours_40 : decode cX1_mostNeighbours 40 = .ok (.land, 1) := by decide +kernel
theorem dX1_mostNeighbours_41 : decode cX1_mostNeighbours 41 = .ok (.lconst 0, 1) := by decide +kernel
theorem dX1_mostNeighbours_42 : decode cX1_mostNeighbours 42 = .ok (.lcmp, 1) := by decide +kernel
theorem dX1_mostNeighbours_43 : decode cX1_mostNeighbours 43 = .ok (.ifCond .eq 17, 3) := by decide +kernel
theorem dX1_mostNeighbours_46 : decode cX1_mostNeighbours 46 = .ok (.iload 6, 2) := by decide +kernel
theorem dX1_mostNeighbours_48 : decode cX1_mostNeighbours 48 = .ok (.iload 4, 2) := by decide +kernel
theorem dX1_mostNeighbours_50 : decode cX1_mostNeighbours 50 = .ok (.if_icmp .le 10, 3) := by decide +kernel
theorem dX1_mostNeighbours_53 : decode cX1_mostNeighbours 53 = .ok (.iload 5, 2) := by decide +kernel
theorem dX1_mostNeighbours_55 : decode cX1_mostNeighbours 55 = .ok (.istore_n 3, 1) := by decide +kernel
theorem dX1_mostNeighbours_56 : decode cX1_mostNeighbours 56 = .ok (.iload 6, 2) := by decide +kernel
theorem dX1_mostNeighbours_58 : decode cX1_mostNeighbours 58 = .ok (.istore 4, 2) := by decide +kernel
theorem dX1_mostNeighbours_60 : decode cX1_mostNeighbours 60 = .ok (.iinc 5 1, 3) := by decide +kernel
theorem dX1_mostNeighbours_63 : decode cX1_mostNeighbours 63 = .ok (.goto (-55), 3) := by decide +kernel
theorem dX1_mostNeighbours_66 : decode cX1_mostNeighbours 66 = .ok (.iload_n 3, 1) := by decide +kernel
theorem dX1_mostNeighbours_67 : decode cX1_mostNeighbours 67 = .ok (.ireturn, 1) := by decide +kernel
theorem dX1_fewestNeighboursAmong_0 : decode cX1_fewestNeighboursAmong 0 = .ok (.iconst 0, 1) := by decide +kernel
theorem dX1_fewestNeighboursAmong_1 : decode cX1_fewestNeighboursAmong 1 = .ok (.istore_n 3, 1) := by decide +kernel
theorem dX1_fewestNeighboursAmong_2 : decode cX1_fewestNeighboursAmong 2 = .ok (.bipush 49, 2) := by decide +kernel
theorem dX1_fewestNeighboursAmong_4 : decode cX1_fewestNeighboursAmong 4 = .ok (.istore 4, 2) := by decide +kernel
theorem dX1_fewestNeighboursAmong_6 : decode cX1_fewestNeighboursAmong 6 = .ok (.iconst 0, 1) := by decide +kernel
theorem dX1_fewestNeighboursAmong_7 : decode cX1_fewestNeighboursAmong 7 = .ok (.istore 5, 2) := by decide +kernel
theorem dX1_fewestNeighboursAmong_9 : decode cX1_fewestNeighboursAmong 9 = .ok (.iload 5, 2) := by decide +kernel
theorem dX1_fewestNeighboursAmong_11 : decode cX1_fewestNeighboursAmong 11 = .ok (.aload_n 0, 1) := by decide +kernel
theorem dX1_fewestNeighboursAmong_12 : decode cX1_fewestNeighboursAmong 12 = .ok (.getfield 18, 3) := by decide +kernel
theorem dX1_fewestNeighboursAmong_15 : decode cX1_fewestNeighboursAmong 15 = .ok (.getfield 31, 3) := by decide +kernel
theorem dX1_fewestNeighboursAmong_18 : decode cX1_fewestNeighboursAmong 18 = .ok (.if_icmp .ge 51, 3) := by decide +kernel
theorem dX1_fewestNeighboursAmong_21 : decode cX1_fewestNeighboursAmong 21 = .ok (.aload_n 0, 1) := by decide +kernel
theorem dX1_fewestNeighboursAmong_22 : decode cX1_fewestNeighboursAmong 22 = .ok (.getfield 18, 3) := by decide +kernel
theorem dX1_fewestNeighboursAmong_25 : decode cX1_fewestNeighboursAmong 25 = .ok (.getfield 47, 3) := by decide +kernel
theorem dX1_fewestNeighboursAmong_28 : decode cX1_fewestNeighboursAmong 28 = .ok (.iload 5, 2) := by decide +kernel
theorem dX1_fewestNeighboursAmong_30 : decode cX1_fewestNeighboursAmong 30 = .ok (.laload, 1) := by decide +kernel
theorem dX1_fewestNeighboursAmong_31 : decode cX1_fewestNeighboursAmong 31 = .ok (.lload_n 1, 1) := by decide +kernel
theorem dX1_fewestNeighboursAmong_32 : decode cX1_fewestNeighboursAmong 32 = .ok (.land, 1) := by decide +kernel
theorem dX1_fewestNeighboursAmong_33 : decode cX1_fewestNeighboursAmong 33 = .ok (.invokestatic 41, 3) := by decide +kernel
theorem dX1_fewestNeighboursAmong_36 : decode cX1_fewestNeighboursAmong 36 = .ok (.istore 6, 2) := by decide +kernel
theorem dX1_fewestNeighboursAmong_38 : decode cX1_fewestNeighboursAmong 38 = .ok (.lload_n 1, 1) := by decide +kernel
theorem dX1_fewestNeighboursAmong_39 : decode cX1_fewestNeighboursAmong 39 = .ok (.lconst 1, 1) := by decide +kernel
theorem dX1_fewestNeighboursAmong_40 : decode cX1_fewestNeighboursAmong 40 = .ok (.iload 5, 2) := by decide +kernel
theorem dX1_fewestNeighboursAmong_42 : decode cX1_fewestNeighboursAmong 42 = .ok (.lshl, 1) := by decide +kernel
theorem dX1_fewestNeighboursAmong_43 : decode cX1_fewestNeighboursAmong 43 = .ok (.land, 1) := by decide +kernel
theorem dX1_fewestNeighboursAmong_44 : decode cX1_fewestNeighboursAmong 44 = .ok (.lconst 0, 1) := by decide +kernel
theorem dX1_fewestNeighboursAmong_45 : decode cX1_fewestNeighboursAmong 45 = .ok (.lcmp, 1) := by decide +kernel
theorem dX1_fewestNeighboursAmong_46 : decode cX1_fewestNeighboursAmong 46 = .ok (.ifCond .eq 17, 3) := by decide +kernel
theorem dX1_fewestNeighboursAmong_49 : decode cX1_fewestNeighboursAmong 49 = .ok (.iload 6, 2) := by decide +kernel
theorem dX1_fewestNeighboursAmong_51 : decode cX1_fewestNeighboursAmong 51 = .ok (.iload 4, 2) := by decide +kernel
theorem dX1_fewestNeighboursAmong_53 : decode cX1_fewestNeighboursAmong 53 = .ok (.if_icmp .ge 10, 3) := by decide +kernel
theorem dX1_fewestNeighboursAmong_56 : decode cX1_fewestNeighboursAmong 56 = .ok (.iload 5, 2) := by decide +kernel
theorem dX1_fewestNeighboursAmong_58 : decode cX1_fewestNeighboursAmong 58 = .ok (.istore_n 3, 1) := by decide +kernel
theorem dX1_fewestNeighboursAmong_59 : decode cX1_fewestNeighboursAmong 59 = .ok (.iload 6, 2) := by decide +kernel
theorem dX1_fewestNeighboursAmong_61 : decode cX1_fewestNeighboursAmong 61 = .ok (.istore 4, 2) := by decide +kernel
theorem dX1_fewestNeighboursAmong_63 : decode cX1_fewestNeighboursAmong 63 = .ok (.iinc 5 1, 3) := by decide +kernel
theorem dX1_fewestNeighboursAmong_66 : decode cX1_fewestNeighboursAmong 66 = .ok (.goto (-57), 3) := by decide +kernel
theorem dX1_fewestNeighboursAmong_69 : decode cX1_fewestNeighboursAmong 69 = .ok (.iload_n 3, 1) := by decide +kernel
theorem dX1_fewestNeighboursAmong_70 : decode cX1_fewestNeighboursAmong 70 = .ok (.ireturn, 1) := by decide +kernel
theorem dX2_init_0 : decode cX2_init 0 = .ok (.aload_n 0, 1) := by decide +kernel
theorem dX2_init_1 : decode cX2_init 1 = .ok (.invokespecial 1, 3) := by decide +kernel
theorem dX2_init_4 : decode cX2_init 4 = .ok (.aload_n 0, 1) := by decide +kernel
theorem dX2_init_5 : decode cX2_init 5 = .ok (.iconst 3, 1) := by decide +kernel
theorem dX2_init_6 : decode cX2_init 6 = .ok (.putfield 7, 3) := by decide +kernel
theorem dX2_init_9 : decode cX2_init 9 = .ok (.aload_n 0, 1) := by decide +kernel
theorem dX2_init_10 : decode cX2_init 10 = .ok (.iconst 3, 1) := by decide +kernel
theorem dX2_init_11 : decode cX2_init 11 = .ok (.putfield 13, 3) := by decide +kernel
theorem dX2_init_14 : decode cX2_init 14 = .ok (.aload_n 0, 1) := by decide +kernel
theorem dX2_init_15 : decode cX2_init 15 = .ok (.bipush 56, 2) := by decide +kernel
theorem dX2_init_17 : decode cX2_init 17 = .ok (.newarray .int, 2) := by decide +kernel
theorem dX2_init_19 : decode cX2_init 19 = .ok (.putfield 18, 3) := by decide +kernel
theorem dX2_init_22 : decode cX2_init 22 = .ok (.aload_n 0, 1) := by decide +kernel
theorem dX2_init_23 : decode cX2_init 23 = .ok (.lconst 0, 1) := by decide +kernel
theorem dX2_init_24 : decode cX2_init 24 = .ok (.putfield 22, 3) := by decide +kernel
theorem dX2_init_27 : decode cX2_init 27 = .ok (.aload_n 0, 1) := by decide +kernel
theorem dX2_init_28 : decode cX2_init 28 = .ok (.lconst 0, 1) := by decide +kernel
theorem dX2_init_29 : decode cX2_init 29 = .ok (.putfield 26, 3) := by decide +kernel
theorem dX2_init_32 : decode cX2_init 32 = .ok (.aload_n 0, 1) := by decide +kernel
theorem dX2_init_33 : decode cX2_init 33 = .ok (.bipush 12, 2) := by decide +kernel
theorem dX2_init_35 : decode cX2_init 35 = .ok (.putfield 29, 3) := by decide +kernel
theorem dX2_init_38 : decode cX2_init 38 = .ok (.aload_n 0, 1) := by decide +kernel
theorem dX2_init_39 : decode cX2_init 39 = .ok (.iconst 1, 1) := by decide +kernel
theorem dX2_init_40 : decode cX2_init 40 = .ok (.putfield 32, 3) := by decide +kernel
theorem dX2_init_43 : decode cX2_init 43 = .ok (.return_, 1) := by decide +kernel
theorem dX2_copyFrom_0 : decode cX2_copyFrom 0 = .ok (.aload_n 0, 1) := by decide +kernel
theorem dX2_copyFrom_1 : decode cX2_copyFrom 1 = .ok (.aload_n 1, 1) := by decide +kernel
theorem dX2_copyFrom_2 : decode cX2_copyFrom 2 = .ok (.getfield 7, 3) := by decide +kernel
theorem dX2_copyFrom_5 : decode cX2_copyFrom 5 = .ok (.putfield 7, 3) := by decide +kernel
theorem dX2_copyFrom_8 : decode cX2_copyFrom 8 = .ok (.aload_n 0, 1) := by decide +kernel
theorem dX2_copyFrom_9 : decode cX2_copyFrom 9 = .ok (.aload_n 1, 1) := by decide +kernel
theorem dX2_copyFrom_10 : decode cX2_copyFrom 10 = .ok (.getfield 13, 3) := by decide +kernel
theorem dX2_copyFrom_13 : decode cX2_copyFrom 13 = .ok (.putfield 13, 3) := by decide +kernel
theorem dX2_copyFrom_16 : decode cX2_copyFrom 16 = .ok (.aload_n 1, 1) := by decide +kernel
theorem dX2_copyFrom_17 : decode cX2_copyFrom 17 = .ok (.getfield 18, 3) := by decide +kernel
theorem dX2_copyFrom_20 : decode cX2_copyFrom 20 = .ok (.iconst 0, 1) := by decide +kernel
theorem dX2_copyFrom_21 : decode cX2_copyFrom 21 = .ok (.aload_n 0, 1) := by decide +kernel
theorem dX2_copyFrom_22 : decode cX2_copyFrom 22 = .ok (.getfield 18, 3) := by decide +kernel
theorem dX2_copyFrom_25 : decode cX2_copyFrom 25 = .ok (.iconst 0, 1) := by decide +kernel
theorem dX2_copyFrom_26 : decode cX2_copyFrom 26 = .ok (.bipush 56, 2) := by decide +kernel
theorem dX2_copyFrom_28 : decode cX2_copyFrom 28 = .ok (.invokestatic 35, 3) := by decide +kernel
theorem dX2_copyFrom_31 : decode cX2_copyFrom 31 = .ok (.aload_n 0, 1) := by decide +kernel
theorem dX2_copyFrom_32 : decode cX2_copyFrom 32 = .ok (.aload_n 1, 1) := by decide +kernel
theorem dX2_copyFrom_33 : decode cX2_copyFrom 33 = .ok (.getfield 22, 3) := by decide +kernel
theorem dX2_copyFrom_36 : decode cX2_copyFrom 36 = .ok (.putfield 22, 3) := by decide +kernel
theorem dX2_copyFrom_39 : decode cX2_copyFrom 39 = .ok (.aload_n 0, 1) := by decide +kernel
theorem dX2_copyFrom_40 : decode cX2_copyFrom 40 = .ok (.aload_n 1, 1) := by decide +kernel
theorem dX2_copyFrom_41 : decode cX2_copyFrom 41 = .ok (.getfield 26, 3) := by decide +kernel
theorem dX2_copyFrom_44 : decode cX2_copyFrom 44 = .ok (.putfield 26, 3) := by decide +kernel
theorem dX2_copyFrom_47 : decode cX2_copyFrom 47 = .ok (.aload_n 0, 1) := by decide +kernel
theorem dX2_copyFrom_48 : decode cX2_copyFrom 48 = .ok (.aload_n 1, 1) := by decide +kernel
theorem dX2_copyFrom_49 : decode cX2_copyFrom 49 = .ok (.getfield 29, 3) := by decide +kernel
theorem dX2_copyFrom_52 : decode cX2_copyFrom 52 = .ok (.putfield 29, 3) := by decide +kernel
theorem dX2_copyFrom_55 : decode cX2_copyFrom 55 = .ok (.aload_n 0, 1) := by decide +kernel
theorem dX2_copyFrom_56 : decode cX2_copyFrom 56 = .ok (.aload_n 1, 1) := by decide +kernel
theorem dX2_copyFrom_57 : decode cX2_copyFrom 57 = .ok (.getfield 32, 3) := by decide +kernel
theorem dX2_copyFrom_60 : decode cX2_copyFrom 60 = .ok (.putfield 32, 3) := by decide +kernel
theorem dX2_copyFrom_63 : decode cX2_copyFrom 63 = .ok (.return_, 1) := by decide +kernel
theorem dX2_hasCell_0 : decode cX2_hasCell 0 = .ok (.iload_n 1, 1) := by decide +kernel
theorem dX2_hasCell_1 : decode cX2_hasCell 1 = .ok (.ifCond .lt 27, 3) := by decide +kernel
theorem dX2_hasCell_4 : decode cX2_hasCell 4 = .ok (.iload_n 1, 1) := by decide +kernel
theorem dX2_hasCell_5 : decode cX2_hasCell 5 = .ok (.aload_n 0, 1) := by decide +kernel
theorem dX2_hasCell_6 : decode cX2_hasCell 6 = .ok (.getfield 7, 3) := by decide +kernel
theorem dX2_hasCell_9 : decode cX2_hasCell 9 = .ok (.if_icmp .ge 19, 3) := by decide +kernel
theorem dX2_hasCell_12 : decode cX2_hasCell 12 = .ok (.iload_n 2, 1) := by decide +kernel
theorem dX2_hasCell_13 : decode cX2_hasCell 13 = .ok (.ifCond .lt 15, 3) := by decide +kernel
theorem dX2_hasCell_16 : decode cX2_hasCell 16 = .ok (.iload_n 2, 1) := by decide +kernel
theorem dX2_hasCell_17 : decode cX2_hasCell 17 = .ok (.aload_n 0, 1) := by decide +kernel
theorem dX2_hasCell_18 : decode cX2_hasCell 18 = .ok (.getfield 13, 3) := by decide +kernel
theorem dX2_hasCell_21 : decode cX2_hasCell 21 = .ok (.if_icmp .ge 7, 3) := by decide +kernel
theorem dX2_hasCell_24 : decode cX2_hasCell 24 = .ok (.iconst 1, 1) := by decide +kernel
theorem dX2_hasCell_25 : decode cX2_hasCell 25 = .ok (.goto 4, 3) := by decide +kernel
theorem dX2_hasCell_28 : decode cX2_hasCell 28 = .ok (.iconst 0, 1) := by decide +kernel
theorem dX2_hasCell_29 : decode cX2_hasCell 29 = .ok (.ireturn, 1) := by decide +kernel
theorem dX2_hasPair_0 : decode cX2_hasPair 0 = .ok (.aload_n 0, 1) := by decide +kernel
theorem dX2_hasPair_1 : decode cX2_hasPair 1 = .ok (.iload_n 1, 1) := by decide +kernel
theorem dX2_hasPair_2 : decode cX2_hasPair 2 = .ok (.iload_n 2, 1) := by decide +kernel
theorem dX2_hasPair_3 : decode cX2_hasPair 3 = .ok (.invokevirtual 41, 3) := by decide +kernel
theorem dX2_hasPair_6 : decode cX2_hasPair 6 = .ok (.ifCond .ne 5, 3) := by decide +kernel
theorem dX2_hasPair_9 : decode cX2_hasPair 9 = .ok (.iconst 0, 1) := by decide +kernel
theorem dX2_hasPair_10 : decode cX2_hasPair 10 = .ok (.ireturn, 1) := by decide +kernel
theorem dX2_hasPair_11 : decode cX2_hasPair 11 = .ok (.iload_n 3, 1) := by decide +kernel
theorem dX2_hasPair_12 : decode cX2_hasPair 12 = .ok (.ifCond .ne 19, 3) := by decide +kernel
theorem dX2_hasPair_15 : decode cX2_hasPair 15 = .ok (.iload_n 2, 1) := by decide +kernel
theorem dX2_hasPair_16 : decode cX2_hasPair 16 = .ok (.iconst 1, 1) := by decide +kernel
theorem dX2_hasPair_17 : decode cX2_hasPair 17 = .ok (.iadd, 1) := by decide +kernel
theorem dX2_hasPair_18 : decode cX2_hasPair 18 = .ok (.aload_n 0, 1) := by decide +kernel
theorem dX2_hasPair_19 : decode cX2_hasPair 19 = .ok (.getfield 13, 3) := by decide +kernel
theorem dX2_hasPair_22 : decode cX2_hasPair 22 = .ok (.if_icmp .ge 7, 3) := by decide +kernel
theorem dX2_hasPair_25 : decode cX2_hasPair 25 = .ok (.iconst 1, 1) := by decide +kernel
theorem dX2_hasPair_26 : decode cX2_hasPair 26 = .ok (.goto 4, 3) := by decide +kernel
theorem dX2_hasPair_29 : decode cX2_hasPair 29 = .ok (.iconst 0, 1) := by decide +kernel
theorem dX2_hasPair_30 : decode cX2_hasPair 30 = .ok (.ireturn, 1) := by decide +kernel
theorem dX2_hasPair_31 : decode cX2_hasPair 31 = .ok (.iload_n 3, 1) := by decide +kernel
theorem dX2_hasPair_32 : decode cX2_hasPair 32 = .ok (.iconst 1, 1) := by decide +kernel
theorem dX2_hasPair_33 : decode cX2_hasPair 33 = .ok (.if_icmp .ne 17, 3) := by decide +kernel
theorem dX2_hasPair_36 : decode cX2_hasPair 36 = .ok (.iload_n 1, 1) := by decide +kernel
theorem dX2_hasPair_37 : decode cX2_hasPair 37 = .ok (.iconst 1, 1) := by decide +kernel
theorem dX2_hasPair_38 : decode cX2_hasPair 38 = .ok (.iadd, 1) := by decide +kernel
theorem dX2_hasPair_39 : decode cX2_hasPair 39 = .ok (.aload_n 0, 1) := by decide +kernel
theorem dX2_hasPair_40 : decode cX2_hasPair 40 = .ok (.getfield 7, 3) := by decide +kernel
theorem dX2_hasPair_43 : decode cX2_hasPair 43 = .ok (.if_icmp .ge 7, 3) := by decide +kernel
theorem dX2_hasPair_46 : decode cX2_hasPair 46 = .ok (.iconst 1, 1) := by decide +kernel
theorem dX2_hasPair_47 : decode cX2_hasPair 47 = .ok (.goto 4, 3) := by decide +kernel
theorem dX2_hasPair_50 : decode cX2_hasPair 50 = .ok (.iconst 0, 1) := by decide +kernel
theorem dX2_hasPair_51 : decode cX2_hasPair 51 = .ok (.ireturn, 1) := by decide +kernel
theorem dX2_hasCut_0 : decode cX2_hasCut 0 = .ok (.iload_n 3, 1) := by decide +kernel
theorem dX2_hasCut_1 : decode cX2_hasCut 1 = .ok (.ifCond .ne 10, 3) := by decide +kernel
theorem dX2_hasCut_4 : decode cX2_hasCut 4 = .ok (.aload_n 0, 1) := by decide +kernel
theorem dX2_hasCut_5 : decode cX2_hasCut 5 = .ok (.getfield 22, 3) := by decide +kernel
theorem dX2_hasCut_8 : decode cX2_hasCut 8 = .ok (.goto 7, 3) := by decide +kernel
theorem dX2_hasCut_11 : decode cX2_hasCut 11 = .ok (.aload_n 0, 1) := by decide +kernel
theorem dX2_hasCut_12 : decode cX2_hasCut 12 = .ok (.getfield 26, 3) := by decide +kernel
theorem dX2_hasCut_15 : decode cX2_hasCut 15 = .ok (.lstore 4, 2) := by decide +kernel
theorem dX2_hasCut_17 : decode cX2_hasCut 17 = .ok (.lload 4, 2) := by decide +kernel
theorem dX2_hasCut_19 : decode cX2_hasCut 19 = .ok (.iload_n 1, 1) := by decide +kernel
theorem dX2_hasCut_20 : decode cX2_hasCut 20 = .ok (.iload_n 2, 1) := by decide +kernel
theorem dX2_hasCut_21 : decode cX2_hasCut 21 = .ok (.invokestatic 45, 3) := by decide +kernel
theorem dX2_hasCut_24 : decode cX2_hasCut 24 = .ok (.land, 1) := by decide +kernel
theorem dX2_hasCut_25 : decode cX2_hasCut 25 = .ok (.lconst 0, 1) := by decide +kernel
theorem dX2_hasCut_26 : decode cX2_hasCut 26 = .ok (.lcmp, 1) := by decide +kernel
theorem dX2_hasCut_27 : decode cX2_hasCut 27 = .ok (.ifCond .eq 7, 3) := by decide +kernel
theorem dX2_hasCut_30 : decode cX2_hasCut 30 = .ok (.iconst 1, 1) := by decide +kernel
theorem dX2_hasCut_31 : decode cX2_hasCut 31 = .ok (.goto 4, 3) := by decide +kernel
theorem dX2_hasCut_34 : decode cX2_hasCut 34 = .ok (.iconst 0, 1) := by decide +kernel
theorem dX2_hasCut_35 : decode cX2_hasCut 35 = .ok (.ireturn, 1) := by decide +kernel
theorem dX2_flip_0 : decode cX2_flip 0 = .ok (.iload_n 3, 1) := by decide +kernel
theorem dX2_flip_1 : decode cX2_flip 1 = .ok (.ifCond .ne 20, 3) := by decide +kernel
theorem dX2_flip_4 : decode cX2_flip 4 = .ok (.aload_n 0, 1) := by decide +kernel
theorem dX2_flip_5 : decode cX2_flip 5 = .ok (.dup, 1) := by decide +kernel
theorem dX2_flip_6 : decode cX2_flip 6 = .ok (.getfield 22, 3) := by decide +kernel
theorem dX2_flip_9 : decode cX2_flip 9 = .ok (.iload_n 1, 1) := by decide +kernel
theorem dX2_flip_10 : decode cX2_flip 10 = .ok (.iload_n 2, 1) := by decide +kernel
theorem dX2_flip_11 : decode cX2_flip 11 = .ok (.invokestatic 45, 3) := by decide +kernel
theorem dX2_flip_14 : decode cX2_flip 14 = .ok (.lxor, 1) := by decide +kernel
theorem dX2_flip_15 : decode cX2_flip 15 = .ok (.putfield 22, 3) := by decide +kernel
theorem dX2_flip_18 : decode cX2_flip 18 = .ok (.goto 17, 3) := by decide +kernel
theorem dX2_flip_21 : decode cX2_flip 21 = .ok (.aload_n 0, 1) := by decide +kernel
theorem dX2_flip_22 : decode cX2_flip 22 = .ok (.dup, 1) := by decide +kernel
theorem dX2_flip_23 : decode cX2_flip 23 = .ok (.getfield 26, 3) := by decide +kernel
theorem dX2_flip_26 : decode cX2_flip 26 = .ok (.iload_n 1, 1) := by decide +kernel
theorem dX2_flip_27 : decode cX2_flip 27 = .ok (.iload_n 2, 1) := by decide +kernel
theorem dX2_flip_28 : decode cX2_flip 28 = .ok (.invokestatic 45, 3) := by decide +kernel
theorem dX2_flip_31 : decode cX2_flip 31 = .ok (.lxor, 1) := by decide +kernel
theorem dX2_flip_32 : decode cX2_flip 32 = .ok (.putfield 26, 3) := by decide +kernel
theorem dX2_flip_35 : decode cX2_flip 35 = .ok (.return_, 1) := by decide +kernel
theorem dX2_countCuts_0 : decode cX2_countCuts 0 = .ok (.aload_n 0, 1) := by decide +kernel
theorem dX2_countCuts_1 : decode cX2_countCuts 1 = .ok (.getfield 22, 3) := by decide +kernel
theorem dX2_countCuts_4 : decode cX2_countCuts 4 = .ok (.invokestatic 49, 3) := by decide +kernel
theorem dX2_countCuts_7 : decode cX2_countCuts 7 = .ok (.aload_n 0, 1) := by decide +kernel
theorem dX2_countCuts_8 : decode cX2_countCuts 8 = .ok (.getfield 26, 3) := by decide +kernel
theorem dX2_countCuts_11 : decode cX2_countCuts 11 = .ok (.invokestatic 49, 3) := by decide +kernel
theorem dX2_countCuts_14 : decode cX2_countCuts 14 = .ok (.iadd, 1) := by decide +kernel
theorem dX2_countCuts_15 : decode cX2_countCuts 15 = .ok (.ireturn, 1) := by decide +kernel
theorem dX2_joined_0 : decode cX2_joined 0 = .ok (.iload_n 1, 1) := by decide +kernel
theorem dX2_joined_1 : decode cX2_joined 1 = .ok (.ifCond .ne 7, 3) := by decide +kernel
theorem dX2_joined_4 : decode cX2_joined 4 = .ok (.iconst 1, 1) := by decide +kernel
theorem dX2_joined_5 : decode cX2_joined 5 = .ok (.goto 5, 3) := by decide +kernel
theorem dX2_joined_8 : decode cX2_joined 8 = .ok (.bipush 8, 2) := by decide +kernel
theorem dX2_joined_10 : decode cX2_joined 10 = .ok (.istore_n 2, 1) := by decide +kernel
theorem dX2_joined_11 : decode cX2_joined 11 = .ok (.lconst 0, 1) := by decide +kernel
theorem dX2_joined_12 : decode cX2_joined 12 = .ok (.lstore_n 3, 1) := by decide +kernel
theorem dX2_joined_13 : decode cX2_joined 13 = .ok (.iconst 0, 1) := by decide +kernel
theorem dX2_joined_14 : decode cX2_joined 14 = .ok (.istore 5, 2) := by decide +kernel
theorem dX2_joined_16 : decode cX2_joined 16 = .ok (.iload 5, 2) := by decide +kernel
theorem dX2_joined_18 : decode cX2_joined 18 = .ok (.aload_n 0, 1) := by decide +kernel
theorem dX2_joined_19 : decode cX2_joined 19 = .ok (.getfield 7, 3) := by decide +kernel
theorem dX2_joined_22 : decode cX2_joined 22 = .ok (.if_icmp .ge 74, 3) := by decide +kernel
theorem dX2_joined_25 : decode cX2_joined 25 = .ok (.iconst 0, 1) := by decide +kernel
theorem dX2_joined_26 : decode cX2_joined 26 = .ok (.istore 6, 2) := by decide +kernel
theorem dX2_joined_28 : decode cX2_joined 28 = .ok (.iload 6, 2) := by decide +kernel
theorem dX2_joined_30 : decode cX2_joined 30 = .ok (.aload_n 0, 1) := by decide +kernel
theorem dX2_joined_31 : decode cX2_joined 31 = .ok (.getfield 13, 3) := by decide +kernel
theorem dX2_joined_34 : decode cX2_joined 34 = .ok (.if_icmp .ge 56, 3) := by decide +kernel
theorem dX2_joined_37 : decode cX2_joined 37 = .ok (.iload 5, 2) := by decide +kernel
theorem dX2_joined_39 : decode cX2_joined 39 = .ok (.iload 6, 2) := by decide +kernel
theorem dX2_joined_41 : decode cX2_joined 41 = .ok (.invokestatic 55, 3) := by decide +kernel
theorem dX2_joined_44 : decode cX2_joined 44 = .ok (.istore 7, 2) := by decide +kernel
theorem dX2_joined_46 : decode cX2_joined 46 = .ok (.aload_n 0, 1) := by decide +kernel
theorem dX2_joined_47 : decode cX2_joined 47 = .ok (.iload 5, 2) := by decide +kernel
theorem dX2_joined_49 : decode cX2_joined 49 = .ok (.iload 6, 2) := by decide +kernel
theorem dX2_joined_51 : decode cX2_joined 51 = .ok (.iload_n 1, 1) := by decide +kernel
theorem dX2_joined_52 : decode cX2_joined 52 = .ok (.invokevirtual 59, 3) := by decide +kernel
theorem dX2_joined_55 : decode cX2_joined 55 = .ok (.ifCond .eq 29, 3) := by decide +kernel
theorem dX2_joined_58 : decode cX2_joined 58 = .ok (.aload_n 0, 1) := by decide +kernel
theorem dX2_joined_59 : decode cX2_joined 59 = .ok (.getfield 18, 3) := by decide +kernel
theorem dX2_joined_62 : decode cX2_joined 62 = .ok (.iload 7, 2) := by decide +kernel
theorem dX2_joined_64 : decode cX2_joined 64 = .ok (.iaload, 1) := by decide +kernel
theorem dX2_joined_65 : decode cX2_joined 65 = .ok (.aload_n 0, 1) := by decide +kernel
theorem dX2_joined_66 : decode cX2_joined 66 = .ok (.getfield 18, 3) := by decide +kernel
theorem dX2_joined_69 : decode cX2_joined 69 = .ok (.iload 7, 2) := by decide +kernel
theorem dX2_joined_71 : decode cX2_joined 71 = .ok (.iload_n 2, 1) := by decide +kernel
theorem dX2_joined_72 : decode cX2_joined 72 = .ok (.iadd, 1) := by decide +kernel
theorem dX2_joined_73 : decode cX2_joined 73 = .ok (.iaload, 1) := by decide +kernel
theorem dX2_joined_74 : decode cX2_joined 74 = .ok (.if_icmp .ne 10, 3) := by decide +kernel
theorem dX2_joined_77 : decode cX2_joined 77 = .ok (.lload_n 3, 1) := by decide +kernel
theorem dX2_joined_78 : decode cX2_joined 78 = .ok (.lconst 1, 1) := by decide +kernel
theorem dX2_joined_79 : decode cX2_joined 79 = .ok (.iload 7, 2) := by decide +kernel
theorem dX2_joined_81 : decode cX2_joined 81 = .ok (.lshl, 1) := by decide +kernel
theorem dX2_joined_82 : decode cX2_joined 82 = .ok (.lor, 1) := by decide +kernel
theorem dX2_joined_83 : decode cX2_joined 83 = .ok (.lstore_n 3, 1) := by decide +kernel
theorem dX2_joined_84 : decode cX2_joined 84 = .ok (.iinc 6 1, 3) := by decide +kernel
theorem dX2_joined_87 : decode cX2_joined 87 = .ok (.goto (-59), 3) := by decide +kernel
theorem dX2_joined_90 : decode cX2_joined 90 = .ok (.iinc 5 1, 3) := by decide +kernel
theorem dX2_joined_93 : decode cX2_joined 93 = .ok (.goto (-77), 3) := by decide +kernel
theorem dX2_joined_96 : decode cX2_joined 96 = .ok (.lload_n 3, 1) := by decide +kernel
theorem dX2_joined_97 : decode cX2_joined 97 = .ok (.iload_n 1, 1) := by decide +kernel
theorem dX2_joined_98 : decode cX2_joined 98 = .ok (.ifCond .ne 10, 3) := by decide +kernel
theorem dX2_joined_101 : decode cX2_joined 101 = .ok (.aload_n 0, 1) := by decide +kernel
theorem dX2_joined_102 : decode cX2_joined 102 = .ok (.getfield 22, 3) := by decide +kernel
theorem dX2_joined_105 : decode cX2_joined 105 = .ok (.goto 7, 3) := by decide +kernel
theorem dX2_joined_108 : decode cX2_joined 108 = .ok (.aload_n 0, 1) := by decide +kernel
theorem dX2_joined_109 : decode cX2_joined 109 = .ok (.getfield 26, 3) := by decide +kernel
theorem dX2_joined_112 : decode cX2_joined 112 = .ok (.ldc2_w 63, 3) := by decide +kernel
theorem dX2_joined_115 : decode cX2_joined 115 = .ok (.lxor, 1) := by decide +kernel
theorem dX2_joined_116 : decode cX2_joined 116 = .ok (.land, 1) := by decide +kernel
theorem dX2_joined_117 : decode cX2_joined 117 = .ok (.lreturn, 1) := by decide +kernel
theorem dX3_init_0 : decode cX3_init 0 = .ok (.aload_n 0, 1) := by decide +kernel
theorem dX3_init_1 : decode cX3_init 1 = .ok (.invokespecial 1, 3) := by decide +kernel
theorem dX3_init_4 : decode cX3_init 4 = .ok (.aload_n 0, 1) := by decide +kernel
theorem dX3_init_5 : decode cX3_init 5 = .ok (.bipush 8, 2) := by decide +kernel
theorem dX3_init_7 : decode cX3_init 7 = .ok (.anewarray 9, 3) := by decide +kernel
theorem dX3_init_10 : decode cX3_init 10 = .ok (.putfield 11, 3) := by decide +kernel
theorem dX3_init_13 : decode cX3_init 13 = .ok (.aload_n 0, 1) := by decide +kernel
theorem dX3_init_14 : decode cX3_init 14 = .ok (.iconst 0, 1) := by decide +kernel
theorem dX3_init_15 : decode cX3_init 15 = .ok (.putfield 15, 3) := by decide +kernel
theorem dX3_init_18 : decode cX3_init 18 = .ok (.aload_n 0, 1) := by decide +kernel
theorem dX3_init_19 : decode cX3_init 19 = .ok (.iconst 0, 1) := by decide +kernel
theorem dX3_init_20 : decode cX3_init 20 = .ok (.putfield 19, 3) := by decide +kernel
theorem dX3_init_23 : decode cX3_init 23 = .ok (.iconst 0, 1) := by decide +kernel
theorem dX3_init_24 : decode cX3_init 24 = .ok (.istore_n 1, 1) := by decide +kernel
theorem dX3_init_25 : decode cX3_init 25 = .ok (.iload_n 1, 1) := by decide +kernel
theorem dX3_init_26 : decode cX3_init 26 = .ok (.bipush 8, 2) := by decide +kernel
theorem dX3_init_28 : decode cX3_init 28 = .ok (.if_icmp .ge 22, 3) := by decide +kernel
theorem dX3_init_31 : decode cX3_init 31 = .ok (.aload_n 0, 1) := by decide +kernel
theorem dX3_init_32 : decode cX3_init 32 = .ok (.getfield 11, 3) := by decide +kernel
theorem dX3_init_35 : decode cX3_init 35 = .ok (.iload_n 1, 1) := by decide +kernel
theorem dX3_init_36 : decode cX3_init 36 = .ok (.new 9, 3) := by decide +kernel
theorem dX3_init_39 : decode cX3_init 39 = .ok (.dup, 1) := by decide +kernel
theorem dX3_init_40 : decode cX3_init 40 = .ok (.invokespecial 22, 3) := by decide +kernel
theorem dX3_init_43 : decode cX3_init 43 = .ok (.aastore, 1) := by decide +kernel
theorem dX3_init_44 : decode cX3_init 44 = .ok (.iinc 1 1, 3) := by decide +kernel
theorem dX3_init_47 : decode cX3_init 47 = .ok (.goto (-22), 3) := by decide +kernel
theorem dX3_init_50 : decode cX3_init 50 = .ok (.return_, 1) := by decide +kernel
theorem dX3_remember_0 : decode cX3_remember 0 = .ok (.aload_n 0, 1) := by decide +kernel
theorem dX3_remember_1 : decode cX3_remember 1 = .ok (.getfield 11, 3) := by decide +kernel
theorem dX3_remember_4 : decode cX3_remember 4 = .ok (.aload_n 0, 1) := by decide +kernel
theorem dX3_remember_5 : decode cX3_remember 5 = .ok (.getfield 15, 3) := by decide +kernel
theorem dX3_remember_8 : decode cX3_remember 8 = .ok (.aaload, 1) := by decide +kernel
theorem dX3_remember_9 : decode cX3_remember 9 = .ok (.aload_n 1, 1) := by decide +kernel
theorem dX3_remember_10 : decode cX3_remember 10 = .ok (.invokevirtual 23, 3) := by decide +kernel
theorem dX3_remember_13 : decode cX3_remember 13 = .ok (.aload_n 0, 1) := by decide +kernel
theorem dX3_remember_14 : decode cX3_remember 14 = .ok (.aload_n 0, 1) := by decide +kernel
theorem dX3_remember_15 : decode cX3_remember 15 = .ok (.getfield 15, 3) := by decide +kernel
theorem dX3_remember_18 : decode cX3_remember 18 = .ok (.iconst 1, 1) := by decide +kernel
theorem dX3_remember_19 : decode cX3_remember 19 = .ok (.iadd, 1) := by decide +kernel
theorem dX3_remember_20 : decode cX3_remember 20 = .ok (.bipush 8, 2) := by decide +kernel
theorem dX3_remember_22 : decode cX3_remember 22 = .ok (.irem, 1) := by decide +kernel
theorem dX3_remember_23 : decode cX3_remember 23 = .ok (.putfield 15, 3) := by decide +kernel
theorem dX3_remember_26 : decode cX3_remember 26 = .ok (.aload_n 0, 1) := by decide +kernel
theorem dX3_remember_27 : decode cX3_remember 27 = .ok (.aload_n 0, 1) := by decide +kernel
theorem dX3_remember_28 : decode cX3_remember 28 = .ok (.getfield 19, 3) := by decide +kernel
theorem dX3_remember_31 : decode cX3_remember 31 = .ok (.iconst 1, 1) := by decide +kernel
theorem dX3_remember_32 : decode cX3_remember 32 = .ok (.iadd, 1) := by decide +kernel
theorem dX3_remember_33 : decode cX3_remember 33 = .ok (.bipush 8, 2) := by decide +kernel
theorem dX3_remember_35 : decode cX3_remember 35 = .ok (.invokestatic 27, 3) := by decide +kernel
theorem dX3_remember_38 : decode cX3_remember 38 = .ok (.putfield 19, 3) := by decide +kernel
theorem dX3_remember_41 : decode cX3_remember 41 = .ok (.return_, 1) := by decide +kernel
theorem dX3_restore_0 : decode cX3_restore 0 = .ok (.aload_n 0, 1) := by decide +kernel
theorem dX3_restore_1 : decode cX3_restore 1 = .ok (.aload_n 0, 1) := by decide +kernel
theorem dX3_restore_2 : decode cX3_restore 2 = .ok (.getfield 15, 3) := by decide +kernel
theorem dX3_restore_5 : decode cX3_restore 5 = .ok (.bipush 8, 2) := by decide +kernel
theorem dX3_restore_7 : decode cX3_restore 7 = .ok (.iadd, 1) := by decide +kernel
theorem dX3_restore_8 : decode cX3_restore 8 = .ok (.iconst 1, 1) := by decide +kernel
theorem dX3_restore_9 : decode cX3_restore 9 = .ok (.isub, 1) := by decide +kernel
theorem dX3_restore_10 : decode cX3_restore 10 = .ok (.bipush 8, 2) := by decide +kernel
theorem dX3_restore_12 : decode cX3_restore 12 = .ok (.irem, 1) := by decide +kernel
theorem dX3_restore_13 : decode cX3_restore 13 = .ok (.putfield 15, 3) := by decide +kernel
theorem dX3_restore_16 : decode cX3_restore 16 = .ok (.aload_n 1, 1) := by decide +kernel
theorem dX3_restore_17 : decode cX3_restore 17 = .ok (.aload_n 0, 1) := by decide +kernel
theorem dX3_restore_18 : decode cX3_restore 18 = .ok (.getfield 11, 3) := by decide +kernel
theorem dX3_restore_21 : decode cX3_restore 21 = .ok (.aload_n 0, 1) := by decide +kernel
theorem dX3_restore_22 : decode cX3_restore 22 = .ok (.getfield 15, 3) := by decide +kernel
theorem dX3_restore_25 : decode cX3_restore 25 = .ok (.aaload, 1) := by decide +kernel
theorem dX3_restore_26 : decode cX3_restore 26 = .ok (.invokevirtual 23, 3) := by decide +kernel
theorem dX3_restore_29 : decode cX3_restore 29 = .ok (.aload_n 0, 1) := by decide +kernel
theorem dX3_restore_30 : decode cX3_restore 30 = .ok (.dup, 1) := by decide +kernel
theorem dX3_restore_31 : decode cX3_restore 31 = .ok (.getfield 19, 3) := by decide +kernel
theorem dX3_restore_34 : decode cX3_restore 34 = .ok (.iconst 1, 1) := by decide +kernel
theorem dX3_restore_35 : decode cX3_restore 35 = .ok (.isub, 1) := by decide +kernel
theorem dX3_restore_36 : decode cX3_restore 36 = .ok (.putfield 19, 3) := by decide +kernel
theorem dX3_restore_39 : decode cX3_restore 39 = .ok (.return_, 1) := by decide +kernel
theorem dX4_init_0 : decode cX4_init 0 = .ok (.aload_n 0, 1) := by decide +kernel
theorem dX4_init_1 : decode cX4_init 1 = .ok (.invokespecial 1, 3) := by decide +kernel
theorem dX4_init_4 : decode cX4_init 4 = .ok (.aload_n 0, 1) := by decide +kernel
theorem dX4_init_5 : decode cX4_init 5 = .ok (.lconst 0, 1) := by decide +kernel
theorem dX4_init_6 : decode cX4_init 6 = .ok (.putfield 7, 3) := by decide +kernel
theorem dX4_init_9 : decode cX4_init 9 = .ok (.aload_n 0, 1) := by decide +kernel
theorem dX4_init_10 : decode cX4_init 10 = .ok (.lconst 0, 1) := by decide +kernel
theorem dX4_init_11 : decode cX4_init 11 = .ok (.putfield 13, 3) := by decide +kernel
theorem dX4_init_14 : decode cX4_init 14 = .ok (.aload_n 0, 1) := by decide +kernel
theorem dX4_init_15 : decode cX4_init 15 = .ok (.lconst 0, 1) := by decide +kernel
theorem dX4_init_16 : decode cX4_init 16 = .ok (.putfield 16, 3) := by decide +kernel
theorem dX4_init_19 : decode cX4_init 19 = .ok (.aload_n 0, 1) := by decide +kernel
theorem dX4_init_20 : decode cX4_init 20 = .ok (.iconst 0, 1) := by decide +kernel
theorem dX4_init_21 : decode cX4_init 21 = .ok (.putfield 19, 3) := by decide +kernel
theorem dX4_init_24 : decode cX4_init 24 = .ok (.aload_n 0, 1) := by decide +kernel
theorem dX4_init_25 : decode cX4_init 25 = .ok (.bipush 49, 2) := by decide +kernel
theorem dX4_init_27 : decode cX4_init 27 = .ok (.newarray .long, 2) := by decide +kernel
theorem dX4_init_29 : decode cX4_init 29 = .ok (.putfield 25, 3) := by decide +kernel
theorem dX4_init_32 : decode cX4_init 32 = .ok (.aload_n 0, 1) := by decide +kernel
theorem dX4_init_33 : decode cX4_init 33 = .ok (.bipush 49, 2) := by decide +kernel
theorem dX4_init_35 : decode cX4_init 35 = .ok (.newarray .long, 2) := by decide +kernel
theorem dX4_init_37 : decode cX4_init 37 = .ok (.putfield 29, 3) := by decide +kernel
theorem dX4_init_40 : decode cX4_init 40 = .ok (.aload_n 0, 1) := by decide +kernel
theorem dX4_init_41 : decode cX4_init 41 = .ok (.aload_n 1, 1) := by decide +kernel
theorem dX4_init_42 : decode cX4_init 42 = .ok (.putfield 32, 3) := by decide +kernel
theorem dX4_init_45 : decode cX4_init 45 = .ok (.return_, 1) := by decide +kernel
theorem dX4_find_0 : decode cX4_find 0 = .ok (.aload_n 0, 1) := by decide +kernel
theorem dX4_find_1 : decode cX4_find 1 = .ok (.iconst 0, 1) := by decide +kernel
theorem dX4_find_2 : decode cX4_find 2 = .ok (.aload_n 0, 1) := by decide +kernel
theorem dX4_find_3 : decode cX4_find 3 = .ok (.getfield 32, 3) := by decide +kernel
theorem dX4_find_6 : decode cX4_find 6 = .ok (.getfield 36, 3) := by decide +kernel
theorem dX4_find_9 : decode cX4_find 9 = .ok (.iconst 1, 1) := by decide +kernel
theorem dX4_find_10 : decode cX4_find 10 = .ok (.isub, 1) := by decide +kernel
theorem dX4_find_11 : decode cX4_find 11 = .ok (.iconst 0, 1) := by decide +kernel
theorem dX4_find_12 : decode cX4_find 12 = .ok (.aload_n 0, 1) := by decide +kernel
theorem dX4_find_13 : decode cX4_find 13 = .ok (.getfield 32, 3) := by decide +kernel
theorem dX4_find_16 : decode cX4_find 16 = .ok (.getfield 41, 3) := by decide +kernel
theorem dX4_find_19 : decode cX4_find 19 = .ok (.iconst 1, 1) := by decide +kernel
theorem dX4_find_20 : decode cX4_find 20 = .ok (.isub, 1) := by decide +kernel
theorem dX4_find_21 : decode cX4_find 21 = .ok (.invokestatic 44, 3) := by decide +kernel
theorem dX4_find_24 : decode cX4_find 24 = .ok (.putfield 7, 3) := by decide +kernel
theorem dX4_find_27 : decode cX4_find 27 = .ok (.aload_n 0, 1) := by decide +kernel
theorem dX4_find_28 : decode cX4_find 28 = .ok (.aload_n 0, 1) := by decide +kernel
theorem dX4_find_29 : decode cX4_find 29 = .ok (.getfield 32, 3) := by decide +kernel
theorem dX4_find_32 : decode cX4_find 32 = .ok (.iconst 0, 1) := by decide +kernel
theorem dX4_find_33 : decode cX4_find 33 = .ok (.invokevirtual 48, 3) := by decide +kernel
theorem dX4_find_36 : decode cX4_find 36 = .ok (.putfield 13, 3) := by decide +kernel
theorem dX4_find_39 : decode cX4_find 39 = .ok (.aload_n 0, 1) := by decide +kernel
theorem dX4_find_40 : decode cX4_find 40 = .ok (.aload_n 0, 1) := by decide +kernel
theorem dX4_find_41 : decode cX4_find 41 = .ok (.getfield 32, 3) := by decide +kernel
theorem dX4_find_44 : decode cX4_find 44 = .ok (.iconst 1, 1) := by decide +kernel
theorem dX4_find_45 : decode cX4_find 45 = .ok (.invokevirtual 48, 3) := by decide +kernel
theorem dX4_find_48 : decode cX4_find 48 = .ok (.putfield 16, 3) := by decide +kernel
theorem dX4_find_51 : decode cX4_find 51 = .ok (.aload_n 0, 1) := by decide +kernel
theorem dX4_find_52 : decode cX4_find 52 = .ok (.iconst 0, 1) := by decide +kernel
theorem dX4_find_53 : decode cX4_find 53 = .ok (.putfield 19, 3) := by decide +kernel
theorem dX4_find_56 : decode cX4_find 56 = .ok (.aload_n 0, 1) := by decide +kernel
theorem dX4_find_57 : decode cX4_find 57 = .ok (.getfield 7, 3) := by decide +kernel
theorem dX4_find_60 : decode cX4_find 60 = .ok (.lstore_n 1, 1) := by decide +kernel
theorem dX4_find_61 : decode cX4_find 61 = .ok (.iconst 0, 1) := by decide +kernel
theorem dX4_find_62 : decode cX4_find 62 = .ok (.istore_n 3, 1) := by decide +kernel
theorem dX4_find_63 : decode cX4_find 63 = .ok (.iload_n 3, 1) := by decide +kernel
theorem dX4_find_64 : decode cX4_find 64 = .ok (.bipush 49, 2) := by decide +kernel
theorem dX4_find_66 : decode cX4_find 66 = .ok (.if_icmp .ge 56, 3) := by decide +kernel
theorem dX4_find_69 : decode cX4_find 69 = .ok (.lload_n 1, 1) := by decide +kernel
theorem dX4_find_70 : decode cX4_find 70 = .ok (.lconst 0, 1) := by decide +kernel
theorem dX4_find_71 : decode cX4_find 71 = .ok (.lcmp, 1) := by decide +kernel
theorem dX4_find_72 : decode cX4_find 72 = .ok (.ifCond .eq 50, 3) := by decide +kernel
theorem dX4_find_75 : decode cX4_find 75 = .ok (.aload_n 0, 1) := by decide +kernel
theorem dX4_find_76 : decode cX4_find 76 = .ok (.getfield 25, 3) := by decide +kernel
theorem dX4_find_79 : decode cX4_find 79 = .ok (.iload_n 3, 1) := by decide +kernel
theorem dX4_find_80 : decode cX4_find 80 = .ok (.aload_n 0, 1) := by decide +kernel
theorem dX4_find_81 : decode cX4_find 81 = .ok (.lload_n 1, 1) := by decide +kernel
theorem dX4_find_82 : decode cX4_find 82 = .ok (.invokestatic 52, 3) := by decide +kernel
theorem dX4_find_85 : decode cX4_find 85 = .ok (.aload_n 0, 1) := by decide +kernel
theorem dX4_find_86 : decode cX4_find 86 = .ok (.getfield 7, 3) := by decide +kernel
theorem dX4_find_89 : decode cX4_find 89 = .ok (.invokevirtual 56, 3) := by decide +kernel
theorem dX4_find_92 : decode cX4_find 92 = .ok (.lastore, 1) := by decide +kernel
theorem dX4_find_93 : decode cX4_find 93 = .ok (.lload_n 1, 1) := by decide +kernel
theorem dX4_find_94 : decode cX4_find 94 = .ok (.aload_n 0, 1) := by decide +kernel
theorem dX4_find_95 : decode cX4_find 95 = .ok (.getfield 25, 3) := by decide +kernel
theorem dX4_find_98 : decode cX4_find 98 = .ok (.iload_n 3, 1) := by decide +kernel
theorem dX4_find_99 : decode cX4_find 99 = .ok (.laload, 1) := by decide +kernel
theorem dX4_find_100 : decode cX4_find 100 = .ok (.ldc2_w 60, 3) := by decide +kernel
theorem dX4_find_103 : decode cX4_find 103 = .ok (.lxor, 1) := by decide +kernel
theorem dX4_find_104 : decode cX4_find 104 = .ok (.land, 1) := by decide +kernel
theorem dX4_find_105 : decode cX4_find 105 = .ok (.lstore_n 1, 1) := by decide +kernel
theorem dX4_find_106 : decode cX4_find 106 = .ok (.aload_n 0, 1) := by decide +kernel
theorem dX4_find_107 : decode cX4_find 107 = .ok (.dup, 1) := by decide +kernel
theorem dX4_find_108 : decode cX4_find 108 = .ok (.getfield 19, 3) := by decide +kernel
theorem dX4_find_111 : decode cX4_find 111 = .ok (.iconst 1, 1) := by decide +kernel
theorem dX4_find_112 : decode cX4_find 112 = .ok (.iadd, 1) := by decide +kernel
theorem dX4_find_113 : decode cX4_find 113 = .ok (.putfield 19, 3) := by decide +kernel
theorem dX4_find_116 : decode cX4_find 116 = .ok (.iinc 3 1, 3) := by decide +kernel
theorem dX4_find_119 : decode cX4_find 119 = .ok (.goto (-56), 3) := by decide +kernel
theorem dX4_find_122 : decode cX4_find 122 = .ok (.iconst 0, 1) := by decide +kernel
theorem dX4_find_123 : decode cX4_find 123 = .ok (.istore_n 3, 1) := by decide +kernel
theorem dX4_find_124 : decode cX4_find 124 = .ok (.iload_n 3, 1) := by decide +kernel
theorem dX4_find_125 : decode cX4_find 125 = .ok (.aload_n 0, 1) := by decide +kernel
theorem dX4_find_126 : decode cX4_find 126 = .ok (.getfield 19, 3) := by decide +kernel
theorem dX4_find_129 : decode cX4_find 129 = .ok (.if_icmp .ge 20, 3) := by decide +kernel
theorem dX4_find_132 : decode cX4_find 132 = .ok (.aload_n 0, 1) := by decide +kernel
theorem dX4_find_133 : decode cX4_find 133 = .ok (.getfield 29, 3) := by decide +kernel
theorem dX4_find_136 : decode cX4_find 136 = .ok (.iload_n 3, 1) := by decide +kernel
theorem dX4_find_137 : decode cX4_find 137 = .ok (.aload_n 0, 1) := by decide +kernel
theorem dX4_find_138 : decode cX4_find 138 = .ok (.iload_n 3, 1) := by decide +kernel
theorem dX4_find_139 : decode cX4_find 139 = .ok (.invokevirtual 62, 3) := by decide +kernel
theorem dX4_find_142 : decode cX4_find 142 = .ok (.lastore, 1) := by decide +kernel
theorem dX4_find_143 : decode cX4_find 143 = .ok (.iinc 3 1, 3) := by decide +kernel
theorem dX4_find_146 : decode cX4_find 146 = .ok (.goto (-22), 3) := by decide +kernel
theorem dX4_find_149 : decode cX4_find 149 = .ok (.return_, 1) := by decide +kernel
theorem dX4_fragment_0 : decode cX4_fragment 0 = .ok (.lload_n 1, 1) := by decide +kernel
theorem dX4_fragment_1 : decode cX4_fragment 1 = .ok (.lstore 5, 2) := by decide +kernel
theorem dX4_fragment_3 : decode cX4_fragment 3 = .ok (.iconst 0, 1) := by decide +kernel
theorem dX4_fragment_4 : decode cX4_fragment 4 = .ok (.istore 7, 2) := by decide +kernel
theorem dX4_fragment_6 : decode cX4_fragment 6 = .ok (.iload 7, 2) := by decide +kernel
theorem dX4_fragment_8 : decode cX4_fragment 8 = .ok (.bipush 49, 2) := by decide +kernel
theorem dX4_fragment_10 : decode cX4_fragment 10 = .ok (.if_icmp .ge 76, 3) := by decide +kernel
theorem dX4_fragment_13 : decode cX4_fragment 13 = .ok (.lload 5, 2) := by decide +kernel
theorem dX4_fragment_15 : decode cX4_fragment 15 = .ok (.lload 5, 2) := by decide +kernel
theorem dX4_fragment_17 : decode cX4_fragment 17 = .ok (.aload_n 0, 1) := by decide +kernel
theorem dX4_fragment_18 : decode cX4_fragment 18 = .ok (.getfield 13, 3) := by decide +kernel
theorem dX4_fragment_21 : decode cX4_fragment 21 = .ok (.land, 1) := by decide +kernel
theorem dX4_fragment_22 : decode cX4_fragment 22 = .ok (.iconst 1, 1) := by decide +kernel
theorem dX4_fragment_23 : decode cX4_fragment 23 = .ok (.lshl, 1) := by decide +kernel
theorem dX4_fragment_24 : decode cX4_fragment 24 = .ok (.lor, 1) := by decide +kernel
theorem dX4_fragment_25 : decode cX4_fragment 25 = .ok (.lload 5, 2) := by decide +kernel
theorem dX4_fragment_27 : decode cX4_fragment 27 = .ok (.iconst 1, 1) := by decide +kernel
theorem dX4_fragment_28 : decode cX4_fragment 28 = .ok (.lushr, 1) := by decide +kernel
theorem dX4_fragment_29 : decode cX4_fragment 29 = .ok (.aload_n 0, 1) := by decide +kernel
theorem dX4_fragment_30 : decode cX4_fragment 30 = .ok (.getfield 13, 3) := by decide +kernel
theorem dX4_fragment_33 : decode cX4_fragment 33 = .ok (.land, 1) := by decide +kernel
theorem dX4_fragment_34 : decode cX4_fragment 34 = .ok (.lor, 1) := by decide +kernel
theorem dX4_fragment_35 : decode cX4_fragment 35 = .ok (.lload 5, 2) := by decide +kernel
theorem dX4_fragment_37 : decode cX4_fragment 37 = .ok (.aload_n 0, 1) := by decide +kernel
theorem dX4_fragment_38 : decode cX4_fragment 38 = .ok (.getfield 16, 3) := by decide +kernel
theorem dX4_fragment_41 : decode cX4_fragment 41 = .ok (.land, 1) := by decide +kernel
theorem dX4_fragment_42 : decode cX4_fragment 42 = .ok (.bipush 8, 2) := by decide +kernel
theorem dX4_fragment_44 : decode cX4_fragment 44 = .ok (.lshl, 1) := by decide +kernel
theorem dX4_fragment_45 : decode cX4_fragment 45 = .ok (.lor, 1) := by decide +kernel
theorem dX4_fragment_46 : decode cX4_fragment 46 = .ok (.lload 5, 2) := by decide +kernel
theorem dX4_fragment_48 : decode cX4_fragment 48 = .ok (.bipush 8, 2) := by decide +kernel
theorem dX4_fragment_50 : decode cX4_fragment 50 = .ok (.lushr, 1) := by decide +kernel
theorem dX4_fragment_51 : decode cX4_fragment 51 = .ok (.aload_n 0, 1) := by decide +kernel
theorem dX4_fragment_52 : decode cX4_fragment 52 = .ok (.getfield 16, 3) := by decide +kernel
theorem dX4_fragment_55 : decode cX4_fragment 55 = .ok (.land, 1) := by decide +kernel
theorem dX4_fragment_56 : decode cX4_fragment 56 = .ok (.lor, 1) := by decide +kernel
theorem dX4_fragment_57 : decode cX4_fragment 57 = .ok (.lstore 8, 2) := by decide +kernel
theorem dX4_fragment_59 : decode cX4_fragment 59 = .ok (.lload 8, 2) := by decide +kernel
theorem dX4_fragment_61 : decode cX4_fragment 61 = .ok (.lload_n 3, 1) := by decide +kernel
theorem dX4_fragment_62 : decode cX4_fragment 62 = .ok (.land, 1) := by decide +kernel
theorem dX4_fragment_63 : decode cX4_fragment 63 = .ok (.lstore 8, 2) := by decide +kernel
theorem dX4_fragment_65 : decode cX4_fragment 65 = .ok (.lload 8, 2) := by decide +kernel
theorem dX4_fragment_67 : decode cX4_fragment 67 = .ok (.lload 5, 2) := by decide +kernel
theorem dX4_fragment_69 : decode cX4_fragment 69 = .ok (.lcmp, 1) := by decide +kernel
theorem dX4_fragment_70 : decode cX4_fragment 70 = .ok (.ifCond .ne 6, 3) := by decide +kernel
theorem dX4_fragment_73 : decode cX4_fragment 73 = .ok (.goto 13, 3) := by decide +kernel
theorem dX4_fragment_76 : decode cX4_fragment 76 = .ok (.lload 8, 2) := by decide +kernel
theorem dX4_fragment_78 : decode cX4_fragment 78 = .ok (.lstore 5, 2) := by decide +kernel
theorem dX4_fragment_80 : decode cX4_fragment 80 = .ok (.iinc 7 1, 3) := by decide +kernel
theorem dX4_fragment_83 : decode cX4_fragment 83 = .ok (.goto (-77), 3) := by decide +kernel
theorem dX4_fragment_86 : decode cX4_fragment 86 = .ok (.lload 5, 2) := by decide +kernel
theorem dX4_fragment_88 : decode cX4_fragment 88 = .ok (.lreturn, 1) := by decide +kernel
theorem dX4_touching_0 : decode cX4_touching 0 = .ok (.aload_n 0, 1) := by decide +kernel
theorem dX4_touching_1 : decode cX4_touching 1 = .ok (.getfield 25, 3) := by decide +kernel
theorem dX4_touching_4 : decode cX4_touching 4 = .ok (.iload_n 1, 1) := by decide +kernel
theorem dX4_touching_5 : decode cX4_touching 5 = .ok (.laload, 1) := by decide +kernel
theorem dX4_touching_6 : decode cX4_touching 6 = .ok (.invokestatic 65, 3) := by decide +kernel
theorem dX4_touching_9 : decode cX4_touching 9 = .ok (.lstore_n 2, 1) := by decide +kernel
theorem dX4_touching_10 : decode cX4_touching 10 = .ok (.lconst 0, 1) := by decide +kernel
theorem dX4_touching_11 : decode cX4_touching 11 = .ok (.lstore 4, 2) := by decide +kernel
theorem dX4_touching_13 : decode cX4_touching 13 = .ok (.iconst 0, 1) := by decide +kernel
theorem dX4_touching_14 : decode cX4_touching 14 = .ok (.istore 6, 2) := by decide +kernel
theorem dX4_touching_16 : decode cX4_touching 16 = .ok (.iload 6, 2) := by decide +kernel
theorem dX4_touching_18 : decode cX4_touching 18 = .ok (.aload_n 0, 1) := by decide +kernel
theorem dX4_touching_19 : decode cX4_touching 19 = .ok (.getfield 19, 3) := by decide +kernel
theorem dX4_touching_22 : decode cX4_touching 22 = .ok (.if_icmp .ge 38, 3) := by decide +kernel
theorem dX4_touching_25 : decode cX4_touching 25 = .ok (.iload 6, 2) := by decide +kernel
theorem dX4_touching_27 : decode cX4_touching 27 = .ok (.iload_n 1, 1) := by decide +kernel
theorem dX4_touching_28 : decode cX4_touching 28 = .ok (.if_icmp .eq 26, 3) := by decide +kernel
theorem dX4_touching_31 : decode cX4_touching 31 = .ok (.aload_n 0, 1) := by decide +kernel
theorem dX4_touching_32 : decode cX4_touching 32 = .ok (.getfield 25, 3) := by decide +kernel
theorem dX4_touching_35 : decode cX4_touching 35 = .ok (.iload 6, 2) := by decide +kernel
theorem dX4_touching_37 : decode cX4_touching 37 = .ok (.laload, 1) := by decide +kernel
theorem dX4_touching_38 : decode cX4_touching 38 = .ok (.lload_n 2, 1) := by decide +kernel
theorem dX4_touching_39 : decode cX4_touching 39 = .ok (.land, 1) := by decide +kernel
theorem dX4_touching_40 : decode cX4_touching 40 = .ok (.lconst 0, 1) := by decide +kernel
theorem dX4_touching_41 : decode cX4_touching 41 = .ok (.lcmp, 1) := by decide +kernel
theorem dX4_touching_42 : decode cX4_touching 42 = .ok (.ifCond .eq 12, 3) := by decide +kernel
theorem dX4_touching_45 : decode cX4_touching 45 = .ok (.lload 4, 2) := by decide +kernel
theorem dX4_touching_47 : decode cX4_touching 47 = .ok (.lconst 1, 1) := by decide +kernel
theorem dX4_touching_48 : decode cX4_touching 48 = .ok (.iload 6, 2) := by decide +kernel
theorem dX4_touching_50 : decode cX4_touching 50 = .ok (.lshl, 1) := by decide +kernel
theorem dX4_touching_51 : decode cX4_touching 51 = .ok (.lor, 1) := by decide +kernel
theorem dX4_touching_52 : decode cX4_touching 52 = .ok (.lstore 4, 2) := by decide +kernel
theorem dX4_touching_54 : decode cX4_touching 54 = .ok (.iinc 6 1, 3) := by decide +kernel
theorem dX4_touching_57 : decode cX4_touching 57 = .ok (.goto (-41), 3) := by decide +kernel
theorem dX4_touching_60 : decode cX4_touching 60 = .ok (.lload 4, 2) := by decide +kernel
theorem dX4_touching_62 : decode cX4_touching 62 = .ok (.lreturn, 1) := by decide +kernel
theorem dX4_hasPane_0 : decode cX4_hasPane 0 = .ok (.iload_n 1, 1) := by decide +kernel
theorem dX4_hasPane_1 : decode cX4_hasPane 1 = .ok (.ifCond .lt 15, 3) := by decide +kernel
theorem dX4_hasPane_4 : decode cX4_hasPane 4 = .ok (.iload_n 1, 1) := by decide +kernel
theorem dX4_hasPane_5 : decode cX4_hasPane 5 = .ok (.aload_n 0, 1) := by decide +kernel
theorem dX4_hasPane_6 : decode cX4_hasPane 6 = .ok (.getfield 19, 3) := by decide +kernel
theorem dX4_hasPane_9 : decode cX4_hasPane 9 = .ok (.if_icmp .ge 7, 3) := by decide +kernel
theorem dX4_hasPane_12 : decode cX4_hasPane 12 = .ok (.iconst 1, 1) := by decide +kernel
theorem dX4_hasPane_13 : decode cX4_hasPane 13 = .ok (.goto 4, 3) := by decide +kernel
theorem dX4_hasPane_16 : decode cX4_hasPane 16 = .ok (.iconst 0, 1) := by decide +kernel
theorem dX4_hasPane_17 : decode cX4_hasPane 17 = .ok (.ireturn, 1) := by decide +kernel
theorem dX4_everyPane_0 : decode cX4_everyPane 0 = .ok (.lconst 1, 1) := by decide +kernel
theorem dX4_everyPane_1 : decode cX4_everyPane 1 = .ok (.aload_n 0, 1) := by decide +kernel
theorem dX4_everyPane_2 : decode cX4_everyPane 2 = .ok (.getfield 19, 3) := by decide +kernel
theorem dX4_everyPane_5 : decode cX4_everyPane 5 = .ok (.lshl, 1) := by decide +kernel
theorem dX4_everyPane_6 : decode cX4_everyPane 6 = .ok (.lconst 1, 1) := by decide +kernel
theorem dX4_everyPane_7 : decode cX4_everyPane 7 = .ok (.lsub, 1) := by decide +kernel
theorem dX4_everyPane_8 : decode cX4_everyPane 8 = .ok (.lreturn, 1) := by decide +kernel
theorem dX4_numberOf_0 : decode cX4_numberOf 0 = .ok (.iconst 0, 1) := by decide +kernel
theorem dX4_numberOf_1 : decode cX4_numberOf 1 = .ok (.istore_n 3, 1) := by decide +kernel
theorem dX4_numberOf_2 : decode cX4_numberOf 2 = .ok (.iconst 0, 1) := by decide +kernel
theorem dX4_numberOf_3 : decode cX4_numberOf 3 = .ok (.istore 4, 2) := by decide +kernel
theorem dX4_numberOf_5 : decode cX4_numberOf 5 = .ok (.iload 4, 2) := by decide +kernel
theorem dX4_numberOf_7 : decode cX4_numberOf 7 = .ok (.aload_n 0, 1) := by decide +kernel
theorem dX4_numberOf_8 : decode cX4_numberOf 8 = .ok (.getfield 19, 3) := by decide +kernel
theorem dX4_numberOf_11 : decode cX4_numberOf 11 = .ok (.if_icmp .ge 26, 3) := by decide +kernel
theorem dX4_numberOf_14 : decode cX4_numberOf 14 = .ok (.aload_n 0, 1) := by decide +kernel
theorem dX4_numberOf_15 : decode cX4_numberOf 15 = .ok (.getfield 25, 3) := by decide +kernel
theorem dX4_numberOf_18 : decode cX4_numberOf 18 = .ok (.iload 4, 2) := by decide +kernel
theorem dX4_numberOf_20 : decode cX4_numberOf 20 = .ok (.laload, 1) := by decide +kernel
theorem dX4_numberOf_21 : decode cX4_numberOf 21 = .ok (.lload_n 1, 1) := by decide +kernel
theorem dX4_numberOf_22 : decode cX4_numberOf 22 = .ok (.land, 1) := by decide +kernel
theorem dX4_numberOf_23 : decode cX4_numberOf 23 = .ok (.lconst 0, 1) := by decide +kernel
theorem dX4_numberOf_24 : decode cX4_numberOf 24 = .ok (.lcmp, 1) := by decide +kernel
theorem dX4_numberOf_25 : decode cX4_numberOf 25 = .ok (.ifCond .eq 6, 3) := by decide +kernel
theorem dX4_numberOf_28 : decode cX4_numberOf 28 = .ok (.iload 4, 2) := by decide +kernel
theorem dX4_numberOf_30 : decode cX4_numberOf 30 = .ok (.istore_n 3, 1) := by decide +kernel
theorem dX4_numberOf_31 : decode cX4_numberOf 31 = .ok (.iinc 4 1, 3) := by decide +kernel
theorem dX4_numberOf_34 : decode cX4_numberOf 34 = .ok (.goto (-29), 3) := by decide +kernel
theorem dX4_numberOf_37 : decode cX4_numberOf 37 = .ok (.iload_n 3, 1) := by decide +kernel
theorem dX4_numberOf_38 : decode cX4_numberOf 38 = .ok (.ireturn, 1) := by decide +kernel
theorem dX4_isEasy_0 : decode cX4_isEasy 0 = .ok (.lload_n 1, 1) := by decide +kernel
theorem dX4_isEasy_1 : decode cX4_isEasy 1 = .ok (.invokestatic 68, 3) := by decide +kernel
theorem dX4_isEasy_4 : decode cX4_isEasy 4 = .ok (.aload_n 0, 1) := by decide +kernel
theorem dX4_isEasy_5 : decode cX4_isEasy 5 = .ok (.getfield 32, 3) := by decide +kernel
theorem dX4_isEasy_8 : decode cX4_isEasy 8 = .ok (.getfield 74, 3) := by decide +kernel
theorem dX4_isEasy_11 : decode cX4_isEasy 11 = .ok (.if_icmp .gt 32, 3) := by decide +kernel
theorem dX4_isEasy_14 : decode cX4_isEasy 14 = .ok (.lload_n 1, 1) := by decide +kernel
theorem dX4_isEasy_15 : decode cX4_isEasy 15 = .ok (.invokestatic 77, 3) := by decide +kernel
theorem dX4_isEasy_18 : decode cX4_isEasy 18 = .ok (.aload_n 0, 1) := by decide +kernel
theorem dX4_isEasy_19 : decode cX4_isEasy 19 = .ok (.getfield 32, 3) := by decide +kernel
theorem dX4_isEasy_22 : decode cX4_isEasy 22 = .ok (.getfield 80, 3) := by decide +kernel
theorem dX4_isEasy_25 : decode cX4_isEasy 25 = .ok (.if_icmp .gt 18, 3) := by decide +kernel
theorem dX4_isEasy_28 : decode cX4_isEasy 28 = .ok (.lload_n 1, 1) := by decide +kernel
theorem dX4_isEasy_29 : decode cX4_isEasy 29 = .ok (.aload_n 0, 1) := by decide +kernel
theorem dX4_isEasy_30 : decode cX4_isEasy 30 = .ok (.getfield 7, 3) := by decide +kernel
theorem dX4_isEasy_33 : decode cX4_isEasy 33 = .ok (.invokestatic 83, 3) := by decide +kernel
theorem dX4_isEasy_36 : decode cX4_isEasy 36 = .ok (.ifCond .ne 7, 3) := by decide +kernel
theorem dX4_isEasy_39 : decode cX4_isEasy 39 = .ok (.iconst 1, 1) := by decide +kernel
theorem dX4_isEasy_40 : decode cX4_isEasy 40 = .ok (.goto 4, 3) := by decide +kernel
theorem dX4_isEasy_43 : decode cX4_isEasy 43 = .ok (.iconst 0, 1) := by decide +kernel
theorem dX4_isEasy_44 : decode cX4_isEasy 44 = .ok (.ireturn, 1) := by decide +kernel
theorem dX4_countEasyFragments_0 : decode cX4_countEasyFragments 0 = .ok (.iconst 0, 1) := by decide +kernel
theorem dX4_countEasyFragments_1 : decode cX4_countEasyFragments 1 = .ok (.istore_n 3, 1) := by decide +kernel
theorem dX4_countEasyFragments_2 : decode cX4_countEasyFragments 2 = .ok (.lload_n 1, 1) := by decide +kernel
theorem dX4_countEasyFragments_3 : decode cX4_countEasyFragments 3 = .ok (.lstore 4, 2) := by decide +kernel
theorem dX4_countEasyFragments_5 : decode cX4_countEasyFragments 5 = .ok (.iconst 0, 1) := by decide +kernel
theorem dX4_countEasyFragments_6 : decode cX4_countEasyFragments 6 = .ok (.istore 6, 2) := by decide +kernel
theorem dX4_countEasyFragments_8 : decode cX4_countEasyFragments 8 = .ok (.iload 6, 2) := by decide +kernel
theorem dX4_countEasyFragments_10 : decode cX4_countEasyFragments 10 = .ok (.bipush 49, 2) := by decide +kernel
theorem dX4_countEasyFragments_12 : decode cX4_countEasyFragments 12 = .ok (.if_icmp .ge 53, 3) := by decide +kernel
theorem dX4_countEasyFragments_15 : decode cX4_countEasyFragments 15 = .ok (.lload 4, 2) := by decide +kernel
theorem dX4_countEasyFragments_17 : decode cX4_countEasyFragments 17 = .ok (.lconst 0, 1) := by decide +kernel
theorem dX4_countEasyFragments_18 : decode cX4_countEasyFragments 18 = .ok (.lcmp, 1) := by decide +kernel
theorem dX4_countEasyFragments_19 : decode cX4_countEasyFragments 19 = .ok (.ifCond .eq 46, 3) := by decide +kernel
theorem dX4_countEasyFragments_22 : decode cX4_countEasyFragments 22 = .ok (.aload_n 0, 1) := by decide +kernel
theorem dX4_countEasyFragments_23 : decode cX4_countEasyFragments 23 = .ok (.lload 4, 2) := by decide +kernel
theorem dX4_countEasyFragments_25 : decode cX4_countEasyFragments 25 = .ok (.invokestatic 52, 3) := by decide +kernel
theorem dX4_countEasyFragments_28 : decode cX4_countEasyFragments 28 = .ok (.lload_n 1, 1) := by decide +kernel
theorem dX4_countEasyFragments_29 : decode cX4_countEasyFragments 29 = .ok (.invokevirtual 56, 3) := by decide +kernel
theorem dX4_countEasyFragments_32 : decode cX4_countEasyFragments 32 = .ok (.lstore 7, 2) := by decide +kernel
theorem dX4_countEasyFragments_34 : decode cX4_countEasyFragments 34 = .ok (.aload_n 0, 1) := by decide +kernel
theorem dX4_countEasyFragments_35 : decode cX4_countEasyFragments 35 = .ok (.lload 7, 2) := by decide +kernel
theorem dX4_countEasyFragments_37 : decode cX4_countEasyFragments 37 = .ok (.invokevirtual 87, 3) := by decide +kernel
theorem dX4_countEasyFragments_40 : decode cX4_countEasyFragments 40 = .ok (.ifCond .ne 5, 3) := by decide +kernel
theorem dX4_countEasyFragments_43 : decode cX4_countEasyFragments 43 = .ok (.iconst (-1), 1) := by decide +kernel
theorem dX4_countEasyFragments_44 : decode cX4_countEasyFragments 44 = .ok (.ireturn, 1) := by decide +kernel
theorem dX4_countEasyFragments_45 : decode cX4_countEasyFragments 45 = .ok (.lload 4, 2) := by decide +kernel
theorem dX4_countEasyFragments_47 : decode cX4_countEasyFragments 47 = .ok (.lload 7, 2) := by decide +kernel
theorem dX4_countEasyFragments_49 : decode cX4_countEasyFragments 49 = .ok (.ldc2_w 60, 3) := by decide +kernel
theorem dX4_countEasyFragments_52 : decode cX4_countEasyFragments 52 = .ok (.lxor, 1) := by decide +kernel
theorem dX4_countEasyFragments_53 : decode cX4_countEasyFragments 53 = .ok (.land, 1) := by decide +kernel
theorem dX4_countEasyFragments_54 : decode cX4_countEasyFragments 54 = .ok (.lstore 4, 2) := by decide +kernel
theorem dX4_countEasyFragments_56 : decode cX4_countEasyFragments 56 = .ok (.iinc 3 1, 3) := by decide +kernel
theorem dX4_countEasyFragments_59 : decode cX4_countEasyFragments 59 = .ok (.iinc 6 1, 3) := by decide +kernel
theorem dX4_countEasyFragments_62 : decode cX4_countEasyFragments 62 = .ok (.goto (-54), 3) := by decide +kernel
theorem dX4_countEasyFragments_65 : decode cX4_countEasyFragments 65 = .ok (.iload_n 3, 1) := by decide +kernel
theorem dX4_countEasyFragments_66 : decode cX4_countEasyFragments 66 = .ok (.ireturn, 1) := by decide +kernel
theorem dX4_looseRight_0 : decode cX4_looseRight 0 = .ok (.lconst 0, 1) := by decide +kernel
theorem dX4_looseRight_1 : decode cX4_looseRight 1 = .ok (.lstore_n 1, 1) := by decide +kernel
theorem dX4_looseRight_2 : decode cX4_looseRight 2 = .ok (.iconst 0, 1) := by decide +kernel
theorem dX4_looseRight_3 : decode cX4_looseRight 3 = .ok (.istore_n 3, 1) := by decide +kernel
theorem dX4_looseRight_4 : decode cX4_looseRight 4 = .ok (.iload_n 3, 1) := by decide +kernel
theorem dX4_looseRight_5 : decode cX4_looseRight 5 = .ok (.aload_n 0, 1) := by decide +kernel
theorem dX4_looseRight_6 : decode cX4_looseRight 6 = .ok (.getfield 19, 3) := by decide +kernel
theorem dX4_looseRight_9 : decode cX4_looseRight 9 = .ok (.if_icmp .ge 21, 3) := by decide +kernel
theorem dX4_looseRight_12 : decode cX4_looseRight 12 = .ok (.lload_n 1, 1) := by decide +kernel
theorem dX4_looseRight_13 : decode cX4_looseRight 13 = .ok (.aload_n 0, 1) := by decide +kernel
theorem dX4_looseRight_14 : decode cX4_looseRight 14 = .ok (.getfield 25, 3) := by decide +kernel
theorem dX4_looseRight_17 : decode cX4_looseRight 17 = .ok (.iload_n 3, 1) := by decide +kernel
theorem dX4_looseRight_18 : decode cX4_looseRight 18 = .ok (.laload, 1) := by decide +kernel
theorem dX4_looseRight_19 : decode cX4_looseRight 19 = .ok (.invokestatic 91, 3) := by decide +kernel
theorem dX4_looseRight_22 : decode cX4_looseRight 22 = .ok (.lor, 1) := by decide +kernel
theorem dX4_looseRight_23 : decode cX4_looseRight 23 = .ok (.lstore_n 1, 1) := by decide +kernel
theorem dX4_looseRight_24 : decode cX4_looseRight 24 = .ok (.iinc 3 1, 3) := by decide +kernel
theorem dX4_looseRight_27 : decode cX4_looseRight 27 = .ok (.goto (-23), 3) := by decide +kernel
theorem dX4_looseRight_30 : decode cX4_looseRight 30 = .ok (.aload_n 0, 1) := by decide +kernel
theorem dX4_looseRight_31 : decode cX4_looseRight 31 = .ok (.getfield 32, 3) := by decide +kernel
theorem dX4_looseRight_34 : decode cX4_looseRight 34 = .ok (.getfield 94, 3) := by decide +kernel
theorem dX4_looseRight_37 : decode cX4_looseRight 37 = .ok (.lload_n 1, 1) := by decide +kernel
theorem dX4_looseRight_38 : decode cX4_looseRight 38 = .ok (.land, 1) := by decide +kernel
theorem dX4_looseRight_39 : decode cX4_looseRight 39 = .ok (.lreturn, 1) := by decide +kernel
theorem dX4_looseBelow_0 : decode cX4_looseBelow 0 = .ok (.lconst 0, 1) := by decide +kernel
theorem dX4_looseBelow_1 : decode cX4_looseBelow 1 = .ok (.lstore_n 1, 1) := by decide +kernel
theorem dX4_looseBelow_2 : decode cX4_looseBelow 2 = .ok (.iconst 0, 1) := by decide +kernel
theorem dX4_looseBelow_3 : decode cX4_looseBelow 3 = .ok (.istore_n 3, 1) := by decide +kernel
theorem dX4_looseBelow_4 : decode cX4_looseBelow 4 = .ok (.iload_n 3, 1) := by decide +kernel
theorem dX4_looseBelow_5 : decode cX4_looseBelow 5 = .ok (.aload_n 0, 1) := by decide +kernel
theorem dX4_looseBelow_6 : decode cX4_looseBelow 6 = .ok (.getfield 19, 3) := by decide +kernel
theorem dX4_looseBelow_9 : decode cX4_looseBelow 9 = .ok (.if_icmp .ge 21, 3) := by decide +kernel
theorem dX4_looseBelow_12 : decode cX4_looseBelow 12 = .ok (.lload_n 1, 1) := by decide +kernel
theorem dX4_looseBelow_13 : decode cX4_looseBelow 13 = .ok (.aload_n 0, 1) := by decide +kernel
theorem dX4_looseBelow_14 : decode cX4_looseBelow 14 = .ok (.getfield 25, 3) := by decide +kernel
theorem dX4_looseBelow_17 : decode cX4_looseBelow 17 = .ok (.iload_n 3, 1) := by decide +kernel
theorem dX4_looseBelow_18 : decode cX4_looseBelow 18 = .ok (.laload, 1) := by decide +kernel
theorem dX4_looseBelow_19 : decode cX4_looseBelow 19 = .ok (.invokestatic 97, 3) := by decide +kernel
theorem dX4_looseBelow_22 : decode cX4_looseBelow 22 = .ok (.lor, 1) := by decide +kernel
theorem dX4_looseBelow_23 : decode cX4_looseBelow 23 = .ok (.lstore_n 1, 1) := by decide +kernel
theorem dX4_looseBelow_24 : decode cX4_looseBelow 24 = .ok (.iinc 3 1, 3) := by decide +kernel
theorem dX4_looseBelow_27 : decode cX4_looseBelow 27 = .ok (.goto (-23), 3) := by decide +kernel
theorem dX4_looseBelow_30 : decode cX4_looseBelow 30 = .ok (.aload_n 0, 1) := by decide +kernel
theorem dX4_looseBelow_31 : decode cX4_looseBelow 31 = .ok (.getfield 32, 3) := by decide +kernel
theorem dX4_looseBelow_34 : decode cX4_looseBelow 34 = .ok (.getfield 100, 3) := by decide +kernel
theorem dX4_looseBelow_37 : decode cX4_looseBelow 37 = .ok (.lload_n 1, 1) := by decide +kernel
theorem dX4_looseBelow_38 : decode cX4_looseBelow 38 = .ok (.land, 1) := by decide +kernel
theorem dX4_looseBelow_39 : decode cX4_looseBelow 39 = .ok (.lreturn, 1) := by decide +kernel
theorem dX4_measureLead_0 : decode cX4_measureLead 0 = .ok (.aload_n 0, 1) := by decide +kernel
theorem dX4_measureLead_1 : decode cX4_measureLead 1 = .ok (.getfield 7, 3) := by decide +kernel
theorem dX4_measureLead_4 : decode cX4_measureLead 4 = .ok (.invokestatic 103, 3) := by decide +kernel
theorem dX4_measureLead_7 : decode cX4_measureLead 7 = .ok (.istore_n 1, 1) := by decide +kernel
theorem dX4_measureLead_8 : decode cX4_measureLead 8 = .ok (.iconst 0, 1) := by decide +kernel
theorem dX4_measureLead_9 : decode cX4_measureLead 9 = .ok (.istore_n 2, 1) := by decide +kernel
theorem dX4_measureLead_10 : decode cX4_measureLead 10 = .ok (.iload_n 2, 1) := by decide +kernel
theorem dX4_measureLead_11 : decode cX4_measureLead 11 = .ok (.aload_n 0, 1) := by decide +kernel
theorem dX4_measureLead_12 : decode cX4_measureLead 12 = .ok (.getfield 19, 3) := by decide +kernel
theorem dX4_measureLead_15 : decode cX4_measureLead 15 = .ok (.if_icmp .ge 21, 3) := by decide +kernel
theorem dX4_measureLead_18 : decode cX4_measureLead 18 = .ok (.iload_n 1, 1) := by decide +kernel
theorem dX4_measureLead_19 : decode cX4_measureLead 19 = .ok (.aload_n 0, 1) := by decide +kernel
theorem dX4_measureLead_20 : decode cX4_measureLead 20 = .ok (.getfield 25, 3) := by decide +kernel
theorem dX4_measureLead_23 : decode cX4_measureLead 23 = .ok (.iload_n 2, 1) := by decide +kernel
theorem dX4_measureLead_24 : decode cX4_measureLead 24 = .ok (.laload, 1) := by decide +kernel
theorem dX4_measureLead_25 : decode cX4_measureLead 25 = .ok (.invokestatic 103, 3) := by decide +kernel
theorem dX4_measureLead_28 : decode cX4_measureLead 28 = .ok (.isub, 1) := by decide +kernel
theorem dX4_measureLead_29 : decode cX4_measureLead 29 = .ok (.istore_n 1, 1) := by decide +kernel
theorem dX4_measureLead_30 : decode cX4_measureLead 30 = .ok (.iinc 2 1, 3) := by decide +kernel
theorem dX4_measureLead_33 : decode cX4_measureLead 33 = .ok (.goto (-23), 3) := by decide +kernel
theorem dX4_measureLead_36 : decode cX4_measureLead 36 = .ok (.iload_n 1, 1) := by decide +kernel
theorem dX4_measureLead_37 : decode cX4_measureLead 37 = .ok (.ireturn, 1) := by decide +kernel
theorem dX4_countEqualNeighbours_0 : decode cX4_countEqualNeighbours 0 = .ok (.iconst 0, 1) := by decide +kernel
theorem dX4_countEqualNeighbours_1 : decode cX4_countEqualNeighbours 1 = .ok (.istore_n 1, 1) := by decide +kernel
theorem dX4_countEqualNeighbours_2 : decode cX4_countEqualNeighbours 2 = .ok (.iconst 0, 1) := by decide +kernel
theorem dX4_countEqualNeighbours_3 : decode cX4_countEqualNeighbours 3 = .ok (.istore_n 2, 1) := by decide +kernel
theorem dX4_countEqualNeighbours_4 : decode cX4_countEqualNeighbours 4 = .ok (.iload_n 2, 1) := by decide +kernel
theorem dX4_countEqualNeighbours_5 : decode cX4_countEqualNeighbours 5 = .ok (.aload_n 0, 1) := by decide +kernel
theorem dX4_countEqualNeighbours_6 : decode cX4_countEqualNeighbours 6 = .ok (.getfield 19, 3) := by decide +kernel
theorem dX4_countEqualNeighbours_9 : decode cX4_countEqualNeighbours 9 = .ok (.if_icmp .ge 65, 3) := by decide +kernel
theorem dX4_countEqualNeighbours_12 : decode cX4_countEqualNeighbours 12 = .ok (.iconst 0, 1) := by decide +kernel
theorem dX4_countEqualNeighbours_13 : decode cX4_countEqualNeighbours 13 = .ok (.istore_n 3, 1) := by decide +kernel
theorem dX4_countEqualNeighbours_14 : decode cX4_countEqualNeighbours 14 = .ok (.iload_n 3, 1) := by decide +kernel
theorem dX4_countEqualNeighbours_15 : decode cX4_countEqualNeighbours 15 = .ok (.iload_n 2, 1) := by decide +kernel
theorem dX4_countEqualNeighbours_16 : decode cX4_countEqualNeighbours 16 = .ok (.if_icmp .ge 52, 3) := by decide +kernel
theorem dX4_countEqualNeighbours_19 : decode cX4_countEqualNeighbours 19 = .ok (.aload_n 0, 1) := by decide +kernel
theorem dX4_countEqualNeighbours_20 : decode cX4_countEqualNeighbours 20 = .ok (.getfield 29, 3) := by decide +kernel
theorem dX4_countEqualNeighbours_23 : decode cX4_countEqualNeighbours 23 = .ok (.iload_n 2, 1) := by decide +kernel
theorem dX4_countEqualNeighbours_24 : decode cX4_countEqualNeighbours 24 = .ok (.laload, 1) := by decide +kernel
theorem dX4_countEqualNeighbours_25 : decode cX4_countEqualNeighbours 25 = .ok (.lconst 1, 1) := by decide +kernel
theorem dX4_countEqualNeighbours_26 : decode cX4_countEqualNeighbours 26 = .ok (.iload_n 3, 1) := by decide +kernel
theorem dX4_countEqualNeighbours_27 : decode cX4_countEqualNeighbours 27 = .ok (.lshl, 1) := by decide +kernel
theorem dX4_countEqualNeighbours_28 : decode cX4_countEqualNeighbours 28 = .ok (.land, 1) := by decide +kernel
theorem dX4_countEqualNeighbours_29 : decode cX4_countEqualNeighbours 29 = .ok (.lconst 0, 1) := by decide +kernel
theorem dX4_countEqualNeighbours_30 : decode cX4_countEqualNeighbours 30 = .ok (.lcmp, 1) := by decide +kernel
theorem dX4_countEqualNeighbours_31 : decode cX4_countEqualNeighbours 31 = .ok (.ifCond .eq 7, 3) := by decide +kernel
theorem dX4_countEqualNeighbours_34 : decode cX4_countEqualNeighbours 34 = .ok (.iconst 1, 1) := by decide +kernel
theorem dX4_countEqualNeighbours_35 : decode cX4_countEqualNeighbours 35 = .ok (.goto 4, 3) := by decide +kernel
theorem dX4_countEqualNeighbours_38 : decode cX4_countEqualNeighbours 38 = .ok (.iconst 0, 1) := by decide +kernel
theorem dX4_countEqualNeighbours_39 : decode cX4_countEqualNeighbours 39 = .ok (.istore 4, 2) := by decide +kernel
theorem dX4_countEqualNeighbours_41 : decode cX4_countEqualNeighbours 41 = .ok (.iload 4, 2) := by decide +kernel
theorem dX4_countEqualNeighbours_43 : decode cX4_countEqualNeighbours 43 = .ok (.ifCond .eq 19, 3) := by decide +kernel
theorem dX4_countEqualNeighbours_46 : decode cX4_countEqualNeighbours 46 = .ok (.aload_n 0, 1) := by decide +kernel
theorem dX4_countEqualNeighbours_47 : decode cX4_countEqualNeighbours 47 = .ok (.iload_n 2, 1) := by decide +kernel
theorem dX4_countEqualNeighbours_48 : decode cX4_countEqualNeighbours 48 = .ok (.invokevirtual 106, 3) := by decide +kernel
theorem dX4_countEqualNeighbours_51 : decode cX4_countEqualNeighbours 51 = .ok (.aload_n 0, 1) := by decide +kernel
theorem dX4_countEqualNeighbours_52 : decode cX4_countEqualNeighbours 52 = .ok (.iload_n 3, 1) := by decide +kernel
theorem dX4_countEqualNeighbours_53 : decode cX4_countEqualNeighbours 53 = .ok (.invokevirtual 106, 3) := by decide +kernel
theorem dX4_countEqualNeighbours_56 : decode cX4_countEqualNeighbours 56 = .ok (.if_icmp .ne 6, 3) := by decide +kernel
theorem dX4_countEqualNeighbours_59 : decode cX4_countEqualNeighbours 59 = .ok (.iinc 1 1, 3) := by decide +kernel
theorem dX4_countEqualNeighbours_62 : decode cX4_countEqualNeighbours 62 = .ok (.iinc 3 1, 3) := by decide +kernel
theorem dX4_countEqualNeighbours_65 : decode cX4_countEqualNeighbours 65 = .ok (.goto (-51), 3) := by decide +kernel
theorem dX4_countEqualNeighbours_68 : decode cX4_countEqualNeighbours 68 = .ok (.iinc 2 1, 3) := by decide +kernel
theorem dX4_countEqualNeighbours_71 : decode cX4_countEqualNeighbours 71 = .ok (.goto (-67), 3) := by decide +kernel
theorem dX4_countEqualNeighbours_74 : decode cX4_countEqualNeighbours 74 = .ok (.iload_n 1, 1) := by decide +kernel
theorem dX4_countEqualNeighbours_75 : decode cX4_countEqualNeighbours 75 = .ok (.ireturn, 1) := by decide +kernel
theorem dX4_colourOf_0 : decode cX4_colourOf 0 = .ok (.aload_n 0, 1) := by decide +kernel
theorem dX4_colourOf_1 : decode cX4_colourOf 1 = .ok (.getfield 25, 3) := by decide +kernel
theorem dX4_colourOf_4 : decode cX4_colourOf 4 = .ok (.iload_n 1, 1) := by decide +kernel
theorem dX4_colourOf_5 : decode cX4_colourOf 5 = .ok (.laload, 1) := by decide +kernel
theorem dX4_colourOf_6 : decode cX4_colourOf 6 = .ok (.invokestatic 110, 3) := by decide +kernel
theorem dX4_colourOf_9 : decode cX4_colourOf 9 = .ok (.istore_n 2, 1) := by decide +kernel
theorem dX4_colourOf_10 : decode cX4_colourOf 10 = .ok (.iload_n 2, 1) := by decide +kernel
theorem dX4_colourOf_11 : decode cX4_colourOf 11 = .ok (.bipush 56, 2) := by decide +kernel
theorem dX4_colourOf_13 : decode cX4_colourOf 13 = .ok (.if_icmp .ge 15, 3) := by decide +kernel
theorem dX4_colourOf_16 : decode cX4_colourOf 16 = .ok (.aload_n 0, 1) := by decide +kernel
theorem dX4_colourOf_17 : decode cX4_colourOf 17 = .ok (.getfield 32, 3) := by decide +kernel
theorem dX4_colourOf_20 : decode cX4_colourOf 20 = .ok (.getfield 113, 3) := by decide +kernel
theorem dX4_colourOf_23 : decode cX4_colourOf 23 = .ok (.iload_n 2, 1) := by decide +kernel
theorem dX4_colourOf_24 : decode cX4_colourOf 24 = .ok (.iaload, 1) := by decide +kernel
theorem dX4_colourOf_25 : decode cX4_colourOf 25 = .ok (.goto 4, 3) := by decide +kernel
theorem dX4_colourOf_28 : decode cX4_colourOf 28 = .ok (.iconst 0, 1) := by decide +kernel
theorem dX4_colourOf_29 : decode cX4_colourOf 29 = .ok (.ireturn, 1) := by decide +kernel
theorem dX4_measureClique_0 : decode cX4_measureClique 0 = .ok (.aload_n 0, 1) := by decide +kernel
theorem dX4_measureClique_1 : decode cX4_measureClique 1 = .ok (.aload_n 0, 1) := by decide +kernel
theorem dX4_measureClique_2 : decode cX4_measureClique 2 = .ok (.invokevirtual 117, 3) := by decide +kernel
theorem dX4_measureClique_5 : decode cX4_measureClique 5 = .ok (.iconst 0, 1) := by decide +kernel
theorem dX4_measureClique_6 : decode cX4_measureClique 6 = .ok (.invokevirtual 121, 3) := by decide +kernel
theorem dX4_measureClique_9 : decode cX4_measureClique 9 = .ok (.ireturn, 1) := by decide +kernel
theorem dX4_cliqueAmong_0 : decode cX4_cliqueAmong 0 = .ok (.iload_n 3, 1) := by decide +kernel
theorem dX4_cliqueAmong_1 : decode cX4_cliqueAmong 1 = .ok (.iconst 4, 1) := by decide +kernel
theorem dX4_cliqueAmong_2 : decode cX4_cliqueAmong 2 = .ok (.if_icmp .lt 5, 3) := by decide +kernel
theorem dX4_cliqueAmong_5 : decode cX4_cliqueAmong 5 = .ok (.iconst 0, 1) := by decide +kernel
theorem dX4_cliqueAmong_6 : decode cX4_cliqueAmong 6 = .ok (.ireturn, 1) := by decide +kernel
theorem dX4_cliqueAmong_7 : decode cX4_cliqueAmong 7 = .ok (.iconst 0, 1) := by decide +kernel
theorem dX4_cliqueAmong_8 : decode cX4_cliqueAmong 8 = .ok (.istore 4, 2) := by decide +kernel
theorem dX4_cliqueAmong_10 : decode cX4_cliqueAmong 10 = .ok (.iconst 0, 1) := by decide +kernel
theorem dX4_cliqueAmong_11 : decode cX4_cliqueAmong 11 = .ok (.istore 5, 2) := by decide +kernel
theorem dX4_cliqueAmong_13 : decode cX4_cliqueAmong 13 = .ok (.iload 5, 2) := by decide +kernel
theorem dX4_cliqueAmong_15 : decode cX4_cliqueAmong 15 = .ok (.aload_n 0, 1) := by decide +kernel
theorem dX4_cliqueAmong_16 : decode cX4_cliqueAmong 16 = .ok (.getfield 19, 3) := by decide +kernel
theorem dX4_cliqueAmong_19 : decode cX4_cliqueAmong 19 = .ok (.if_icmp .ge 60, 3) := by decide +kernel
theorem dX4_cliqueAmong_22 : decode cX4_cliqueAmong 22 = .ok (.lload_n 1, 1) := by decide +kernel
theorem dX4_cliqueAmong_23 : decode cX4_cliqueAmong 23 = .ok (.lconst 1, 1) := by decide +kernel
theorem dX4_cliqueAmong_24 : decode cX4_cliqueAmong 24 = .ok (.iload 5, 2) := by decide +kernel
theorem dX4_cliqueAmong_26 : decode cX4_cliqueAmong 26 = .ok (.lshl, 1) := by decide +kernel
theorem dX4_cliqueAmong_27 : decode cX4_cliqueAmong 27 = .ok (.land, 1) := by decide +kernel
theorem dX4_cliqueAmong_28 : decode cX4_cliqueAmong 28 = .ok (.lconst 0, 1) := by decide +kernel
theorem dX4_cliqueAmong_29 : decode cX4_cliqueAmong 29 = .ok (.lcmp, 1) := by decide +kernel
theorem dX4_cliqueAmong_30 : decode cX4_cliqueAmong 30 = .ok (.ifCond .eq 43, 3) := by decide +kernel
theorem dX4_cliqueAmong_33 : decode cX4_cliqueAmong 33 = .ok (.lconst 1, 1) := by decide +kernel
theorem dX4_cliqueAmong_34 : decode cX4_cliqueAmong 34 = .ok (.iload 5, 2) := by decide +kernel
theorem dX4_cliqueAmong_36 : decode cX4_cliqueAmong 36 = .ok (.lshl, 1) := by decide +kernel
theorem dX4_cliqueAmong_37 : decode cX4_cliqueAmong 37 = .ok (.lconst 1, 1) := by decide +kernel
theorem dX4_cliqueAmong_38 : decode cX4_cliqueAmong 38 = .ok (.lsub, 1) := by decide +kernel
theorem dX4_cliqueAmong_39 : decode cX4_cliqueAmong 39 = .ok (.lstore 6, 2) := by decide +kernel
theorem dX4_cliqueAmong_41 : decode cX4_cliqueAmong 41 = .ok (.lload_n 1, 1) := by decide +kernel
theorem dX4_cliqueAmong_42 : decode cX4_cliqueAmong 42 = .ok (.aload_n 0, 1) := by decide +kernel
theorem dX4_cliqueAmong_43 : decode cX4_cliqueAmong 43 = .ok (.getfield 29, 3) := by decide +kernel
theorem dX4_cliqueAmong_46 : decode cX4_cliqueAmong 46 = .ok (.iload 5, 2) := by decide +kernel
theorem dX4_cliqueAmong_48 : decode cX4_cliqueAmong 48 = .ok (.laload, 1) := by decide +kernel
theorem dX4_cliqueAmong_49 : decode cX4_cliqueAmong 49 = .ok (.land, 1) := by decide +kernel
theorem dX4_cliqueAmong_50 : decode cX4_cliqueAmong 50 = .ok (.lload 6, 2) := by decide +kernel
theorem dX4_cliqueAmong_52 : decode cX4_cliqueAmong 52 = .ok (.land, 1) := by decide +kernel
theorem dX4_cliqueAmong_53 : decode cX4_cliqueAmong 53 = .ok (.lstore 8, 2) := by decide +kernel
theorem dX4_cliqueAmong_55 : decode cX4_cliqueAmong 55 = .ok (.iload 4, 2) := by decide +kernel
theorem dX4_cliqueAmong_57 : decode cX4_cliqueAmong 57 = .ok (.iconst 1, 1) := by decide +kernel
theorem dX4_cliqueAmong_58 : decode cX4_cliqueAmong 58 = .ok (.aload_n 0, 1) := by decide +kernel
theorem dX4_cliqueAmong_59 : decode cX4_cliqueAmong 59 = .ok (.lload 8, 2) := by decide +kernel
theorem dX4_cliqueAmong_61 : decode cX4_cliqueAmong 61 = .ok (.iload_n 3, 1) := by decide +kernel
theorem dX4_cliqueAmong_62 : decode cX4_cliqueAmong 62 = .ok (.iconst 1, 1) := by decide +kernel
theorem dX4_cliqueAmong_63 : decode cX4_cliqueAmong 63 = .ok (.iadd, 1) := by decide +kernel
theorem dX4_cliqueAmong_64 : decode cX4_cliqueAmong 64 = .ok (.invokevirtual 121, 3) := by decide +kernel
theorem dX4_cliqueAmong_67 : decode cX4_cliqueAmong 67 = .ok (.iadd, 1) := by decide +kernel
theorem dX4_cliqueAmong_68 : decode cX4_cliqueAmong 68 = .ok (.invokestatic 125, 3) := by decide +kernel
theorem dX4_cliqueAmong_71 : decode cX4_cliqueAmong 71 = .ok (.istore 4, 2) := by decide +kernel
theorem dX4_cliqueAmong_73 : decode cX4_cliqueAmong 73 = .ok (.iinc 5 1, 3) := by decide +kernel
theorem dX4_cliqueAmong_76 : decode cX4_cliqueAmong 76 = .ok (.goto (-63), 3) := by decide +kernel
theorem dX4_cliqueAmong_79 : decode cX4_cliqueAmong 79 = .ok (.iload 4, 2) := by decide +kernel
theorem dX4_cliqueAmong_81 : decode cX4_cliqueAmong 81 = .ok (.ireturn, 1) := by decide +kernel
theorem dX5_init_0 : decode cX5_init 0 = .ok (.aload_n 0, 1) := by decide +kernel
theorem dX5_init_1 : decode cX5_init 1 = .ok (.invokespecial 3, 3) := by decide +kernel
theorem dX5_init_4 : decode cX5_init 4 = .ok (.aload_n 0, 1) := by decide +kernel
theorem dX5_init_5 : decode cX5_init 5 = .ok (.iconst (-1), 1) := by decide +kernel
theorem dX5_init_6 : decode cX5_init 6 = .ok (.putfield 11, 3) := by decide +kernel
theorem dX5_init_9 : decode cX5_init 9 = .ok (.aload_n 0, 1) := by decide +kernel
theorem dX5_init_10 : decode cX5_init 10 = .ok (.lconst 0, 1) := by decide +kernel
theorem dX5_init_11 : decode cX5_init 11 = .ok (.putfield 15, 3) := by decide +kernel
theorem dX5_init_14 : decode cX5_init 14 = .ok (.aload_n 0, 1) := by decide +kernel
theorem dX5_init_15 : decode cX5_init 15 = .ok (.iconst 0, 1) := by decide +kernel
theorem dX5_init_16 : decode cX5_init 16 = .ok (.putfield 19, 3) := by decide +kernel
theorem dX5_init_19 : decode cX5_init 19 = .ok (.aload_n 0, 1) := by decide +kernel
theorem dX5_init_20 : decode cX5_init 20 = .ok (.iconst 0, 1) := by decide +kernel
theorem dX5_init_21 : decode cX5_init 21 = .ok (.putfield 22, 3) := by decide +kernel
theorem dX5_init_24 : decode cX5_init 24 = .ok (.aload_n 0, 1) := by decide +kernel
theorem dX5_init_25 : decode cX5_init 25 = .ok (.iconst 0, 1) := by decide +kernel
theorem dX5_init_26 : decode cX5_init 26 = .ok (.putfield 25, 3) := by decide +kernel
theorem dX5_init_29 : decode cX5_init 29 = .ok (.aload_n 0, 1) := by decide +kernel
theorem dX5_init_30 : decode cX5_init 30 = .ok (.iconst 0, 1) := by decide +kernel
theorem dX5_init_31 : decode cX5_init 31 = .ok (.putfield 28, 3) := by decide +kernel
theorem dX5_init_34 : decode cX5_init 34 = .ok (.aload_n 0, 1) := by decide +kernel
theorem dX5_init_35 : decode cX5_init 35 = .ok (.sipush 784, 3) := by decide +kernel
theorem dX5_init_38 : decode cX5_init 38 = .ok (.newarray .int, 2) := by decide +kernel
theorem dX5_init_40 : decode cX5_init 40 = .ok (.putfield 31, 3) := by decide +kernel
theorem dX5_init_43 : decode cX5_init 43 = .ok (.aload_n 0, 1) := by decide +kernel
theorem dX5_init_44 : decode cX5_init 44 = .ok (.sipush 784, 3) := by decide +kernel
theorem dX5_init_47 : decode cX5_init 47 = .ok (.newarray .int, 2) := by decide +kernel
theorem dX5_init_49 : decode cX5_init 49 = .ok (.putfield 35, 3) := by decide +kernel
theorem dX5_init_52 : decode cX5_init 52 = .ok (.aload_n 0, 1) := by decide +kernel
theorem dX5_init_53 : decode cX5_init 53 = .ok (.aload_n 1, 1) := by decide +kernel
theorem dX5_init_54 : decode cX5_init 54 = .ok (.putfield 38, 3) := by decide +kernel
theorem dX5_init_57 : decode cX5_init 57 = .ok (.return_, 1) := by decide +kernel
theorem dX5_forget_0 : decode cX5_forget 0 = .ok (.aload_n 0, 1) := by decide +kernel
theorem dX5_forget_1 : decode cX5_forget 1 = .ok (.iconst (-1), 1) := by decide +kernel
theorem dX5_forget_2 : decode cX5_forget 2 = .ok (.putfield 11, 3) := by decide +kernel
theorem dX5_forget_5 : decode cX5_forget 5 = .ok (.return_, 1) := by decide +kernel
theorem dX5_pieces_0 : decode cX5_pieces 0 = .ok (.aload_n 0, 1) := by decide +kernel
theorem dX5_pieces_1 : decode cX5_pieces 1 = .ok (.getfield 31, 3) := by decide +kernel
theorem dX5_pieces_4 : decode cX5_pieces 4 = .ok (.aload_n 0, 1) := by decide +kernel
theorem dX5_pieces_5 : decode cX5_pieces 5 = .ok (.getfield 19, 3) := by decide +kernel
theorem dX5_pieces_8 : decode cX5_pieces 8 = .ok (.aload_n 0, 1) := by decide +kernel
theorem dX5_pieces_9 : decode cX5_pieces 9 = .ok (.getfield 22, 3) := by decide +kernel
theorem dX5_pieces_12 : decode cX5_pieces 12 = .ok (.aload_n 0, 1) := by decide +kernel
theorem dX5_pieces_13 : decode cX5_pieces 13 = .ok (.getfield 25, 3) := by decide +kernel
theorem dX5_pieces_16 : decode cX5_pieces 16 = .ok (.aload_n 0, 1) := by decide +kernel
theorem dX5_pieces_17 : decode cX5_pieces 17 = .ok (.getfield 28, 3) := by decide +kernel
theorem dX5_pieces_20 : decode cX5_pieces 20 = .ok (.invokestatic 42, 3) := by decide +kernel
theorem dX5_pieces_23 : decode cX5_pieces 23 = .ok (.iaload, 1) := by decide +kernel
theorem dX5_pieces_24 : decode cX5_pieces 24 = .ok (.sipush 128, 3) := by decide +kernel
theorem dX5_pieces_27 : decode cX5_pieces 27 = .ok (.idiv, 1) := by decide +kernel
theorem dX5_pieces_28 : decode cX5_pieces 28 = .ok (.ireturn, 1) := by decide +kernel
theorem dX5_lead_0 : decode cX5_lead 0 = .ok (.aload_n 0, 1) := by decide +kernel
theorem dX5_lead_1 : decode cX5_lead 1 = .ok (.getfield 31, 3) := by decide +kernel
theorem dX5_lead_4 : decode cX5_lead 4 = .ok (.aload_n 0, 1) := by decide +kernel
theorem dX5_lead_5 : decode cX5_lead 5 = .ok (.getfield 19, 3) := by decide +kernel
theorem dX5_lead_8 : decode cX5_lead 8 = .ok (.aload_n 0, 1) := by decide +kernel
theorem dX5_lead_9 : decode cX5_lead 9 = .ok (.getfield 22, 3) := by decide +kernel
theorem dX5_lead_12 : decode cX5_lead 12 = .ok (.aload_n 0, 1) := by decide +kernel
theorem dX5_lead_13 : decode cX5_lead 13 = .ok (.getfield 25, 3) := by decide +kernel
theorem dX5_lead_16 : decode cX5_lead 16 = .ok (.aload_n 0, 1) := by decide +kernel
theorem dX5_lead_17 : decode cX5_lead 17 = .ok (.getfield 28, 3) := by decide +kernel
theorem dX5_lead_20 : decode cX5_lead 20 = .ok (.invokestatic 42, 3) := by decide +kernel
theorem dX5_lead_23 : decode cX5_lead 23 = .ok (.iaload, 1) := by decide +kernel
theorem dX5_lead_24 : decode cX5_lead 24 = .ok (.sipush 128, 3) := by decide +kernel
theorem dX5_lead_27 : decode cX5_lead 27 = .ok (.irem, 1) := by decide +kernel
theorem dX5_lead_28 : decode cX5_lead 28 = .ok (.ireturn, 1) := by decide +kernel
theorem dX5_plan_0 : decode cX5_plan 0 = .ok (.iload_n 1, 1) := by decide +kernel
theorem dX5_plan_1 : decode cX5_plan 1 = .ok (.aload_n 0, 1) := by decide +kernel
theorem dX5_plan_2 : decode cX5_plan 2 = .ok (.getfield 11, 3) := by decide +kernel
theorem dX5_plan_5 : decode cX5_plan 5 = .ok (.if_icmp .ne 4, 3) := by decide +kernel
theorem dX5_plan_8 : decode cX5_plan 8 = .ok (.return_, 1) := by decide +kernel
theorem dX5_plan_9 : decode cX5_plan 9 = .ok (.aload_n 0, 1) := by decide +kernel
theorem dX5_plan_10 : decode cX5_plan 10 = .ok (.iload_n 1, 1) := by decide +kernel
theorem dX5_plan_11 : decode cX5_plan 11 = .ok (.putfield 11, 3) := by decide +kernel
theorem dX5_plan_14 : decode cX5_plan 14 = .ok (.aload_n 0, 1) := by decide +kernel
theorem dX5_plan_15 : decode cX5_plan 15 = .ok (.aload_n 0, 1) := by decide +kernel
theorem dX5_plan_16 : decode cX5_plan 16 = .ok (.getfield 38, 3) := by decide +kernel
theorem dX5_plan_19 : decode cX5_plan 19 = .ok (.getfield 46, 3) := by decide +kernel
theorem dX5_plan_22 : decode cX5_plan 22 = .ok (.iload_n 1, 1) := by decide +kernel
theorem dX5_plan_23 : decode cX5_plan 23 = .ok (.laload, 1) := by decide +kernel
theorem dX5_plan_24 : decode cX5_plan 24 = .ok (.putfield 15, 3) := by decide +kernel
theorem dX5_plan_27 : decode cX5_plan 27 = .ok (.aload_n 0, 1) := by decide +kernel
theorem dX5_plan_28 : decode cX5_plan 28 = .ok (.invokevirtual 51, 3) := by decide +kernel
theorem dX5_plan_31 : decode cX5_plan 31 = .ok (.aload_n 0, 1) := by decide +kernel
theorem dX5_plan_32 : decode cX5_plan 32 = .ok (.getfield 19, 3) := by decide +kernel
theorem dX5_plan_35 : decode cX5_plan 35 = .ok (.istore_n 2, 1) := by decide +kernel
theorem dX5_plan_36 : decode cX5_plan 36 = .ok (.iload_n 2, 1) := by decide +kernel
theorem dX5_plan_37 : decode cX5_plan 37 = .ok (.aload_n 0, 1) := by decide +kernel
theorem dX5_plan_38 : decode cX5_plan 38 = .ok (.getfield 22, 3) := by decide +kernel
theorem dX5_plan_41 : decode cX5_plan 41 = .ok (.if_icmp .gt 75, 3) := by decide +kernel
theorem dX5_plan_44 : decode cX5_plan 44 = .ok (.iload_n 2, 1) := by decide +kernel
theorem dX5_plan_45 : decode cX5_plan 45 = .ok (.istore_n 3, 1) := by decide +kernel
theorem dX5_plan_46 : decode cX5_plan 46 = .ok (.iload_n 3, 1) := by decide +kernel
theorem dX5_plan_47 : decode cX5_plan 47 = .ok (.aload_n 0, 1) := by decide +kernel
theorem dX5_plan_48 : decode cX5_plan 48 = .ok (.getfield 19, 3) := by decide +kernel
theorem dX5_plan_51 : decode cX5_plan 51 = .ok (.if_icmp .lt 59, 3) := by decide +kernel
theorem dX5_plan_54 : decode cX5_plan 54 = .ok (.aload_n 0, 1) := by decide +kernel
theorem dX5_plan_55 : decode cX5_plan 55 = .ok (.getfield 25, 3) := by decide +kernel
theorem dX5_plan_58 : decode cX5_plan 58 = .ok (.istore 4, 2) := by decide +kernel
theorem dX5_plan_60 : decode cX5_plan 60 = .ok (.iload 4, 2) := by decide +kernel
theorem dX5_plan_62 : decode cX5_plan 62 = .ok (.aload_n 0, 1) := by decide +kernel
theorem dX5_plan_63 : decode cX5_plan 63 = .ok (.getfield 28, 3) := by decide +kernel
theorem dX5_plan_66 : decode cX5_plan 66 = .ok (.if_icmp .gt 38, 3) := by decide +kernel
theorem dX5_plan_69 : decode cX5_plan 69 = .ok (.iload 4, 2) := by decide +kernel
theorem dX5_plan_71 : decode cX5_plan 71 = .ok (.istore 5, 2) := by decide +kernel
theorem dX5_plan_73 : decode cX5_plan 73 = .ok (.iload 5, 2) := by decide +kernel
theorem dX5_plan_75 : decode cX5_plan 75 = .ok (.aload_n 0, 1) := by decide +kernel
theorem dX5_plan_76 : decode cX5_plan 76 = .ok (.getfield 25, 3) := by decide +kernel
theorem dX5_plan_79 : decode cX5_plan 79 = .ok (.if_icmp .lt 19, 3) := by decide +kernel
theorem dX5_plan_82 : decode cX5_plan 82 = .ok (.aload_n 0, 1) := by decide +kernel
theorem dX5_plan_83 : decode cX5_plan 83 = .ok (.iload_n 3, 1) := by decide +kernel
theorem dX5_plan_84 : decode cX5_plan 84 = .ok (.iload_n 2, 1) := by decide +kernel
theorem dX5_plan_85 : decode cX5_plan 85 = .ok (.iload 5, 2) := by decide +kernel
theorem dX5_plan_87 : decode cX5_plan 87 = .ok (.iload 4, 2) := by decide +kernel
theorem dX5_plan_89 : decode cX5_plan 89 = .ok (.invokevirtual 54, 3) := by decide +kernel
theorem dX5_plan_92 : decode cX5_plan 92 = .ok (.iinc 5 (-1), 3) := by decide +kernel
theorem dX5_plan_95 : decode cX5_plan 95 = .ok (.goto (-22), 3) := by decide +kernel
theorem dX5_plan_98 : decode cX5_plan 98 = .ok (.iinc 4 1, 3) := by decide +kernel
theorem dX5_plan_101 : decode cX5_plan 101 = .ok (.goto (-41), 3) := by decide +kernel
theorem dX5_plan_104 : decode cX5_plan 104 = .ok (.iinc 3 (-1), 3) := by decide +kernel
theorem dX5_plan_107 : decode cX5_plan 107 = .ok (.goto (-61), 3) := by decide +kernel
theorem dX5_plan_110 : decode cX5_plan 110 = .ok (.iinc 2 1, 3) := by decide +kernel
theorem dX5_plan_113 : decode cX5_plan 113 = .ok (.goto (-77), 3) := by decide +kernel
theorem dX5_plan_116 : decode cX5_plan 116 = .ok (.return_, 1) := by decide +kernel
theorem dX5_frame_0 : decode cX5_frame 0 = .ok (.aload_n 0, 1) := by decide +kernel
theorem dX5_frame_1 : decode cX5_frame 1 = .ok (.bipush 6, 2) := by decide +kernel
theorem dX5_frame_3 : decode cX5_frame 3 = .ok (.putfield 19, 3) := by decide +kernel
theorem dX5_frame_6 : decode cX5_frame 6 = .ok (.aload_n 0, 1) := by decide +kernel
theorem dX5_frame_7 : decode cX5_frame 7 = .ok (.iconst 0, 1) := by decide +kernel
theorem dX5_frame_8 : decode cX5_frame 8 = .ok (.putfield 22, 3) := by decide +kernel
theorem dX5_frame_11 : decode cX5_frame 11 = .ok (.aload_n 0, 1) := by decide +kernel
theorem dX5_frame_12 : decode cX5_frame 12 = .ok (.bipush 6, 2) := by decide +kernel
theorem dX5_frame_14 : decode cX5_frame 14 = .ok (.putfield 25, 3) := by decide +kernel
theorem dX5_frame_17 : decode cX5_frame 17 = .ok (.aload_n 0, 1) := by decide +kernel
theorem dX5_frame_18 : decode cX5_frame 18 = .ok (.iconst 0, 1) := by decide +kernel
theorem dX5_frame_19 : decode cX5_frame 19 = .ok (.putfield 28, 3) := by decide +kernel
theorem dX5_frame_22 : decode cX5_frame 22 = .ok (.iconst 0, 1) := by decide +kernel
theorem dX5_frame_23 : decode cX5_frame 23 = .ok (.istore_n 1, 1) := by decide +kernel
theorem dX5_frame_24 : decode cX5_frame 24 = .ok (.iload_n 1, 1) := by decide +kernel
theorem dX5_frame_25 : decode cX5_frame 25 = .ok (.bipush 7, 2) := by decide +kernel
theorem dX5_frame_27 : decode cX5_frame 27 = .ok (.if_icmp .ge 71, 3) := by decide +kernel
theorem dX5_frame_30 : decode cX5_frame 30 = .ok (.aload_n 0, 1) := by decide +kernel
theorem dX5_frame_31 : decode cX5_frame 31 = .ok (.getfield 15, 3) := by decide +kernel
theorem dX5_frame_34 : decode cX5_frame 34 = .ok (.iload_n 1, 1) := by decide +kernel
theorem dX5_frame_35 : decode cX5_frame 35 = .ok (.invokestatic 58, 3) := by decide +kernel
theorem dX5_frame_38 : decode cX5_frame 38 = .ok (.land, 1) := by decide +kernel
theorem dX5_frame_39 : decode cX5_frame 39 = .ok (.lconst 0, 1) := by decide +kernel
theorem dX5_frame_40 : decode cX5_frame 40 = .ok (.lcmp, 1) := by decide +kernel
theorem dX5_frame_41 : decode cX5_frame 41 = .ok (.ifCond .eq 20, 3) := by decide +kernel
theorem dX5_frame_44 : decode cX5_frame 44 = .ok (.aload_n 0, 1) := by decide +kernel
theorem dX5_frame_45 : decode cX5_frame 45 = .ok (.aload_n 0, 1) := by decide +kernel
theorem dX5_frame_46 : decode cX5_frame 46 = .ok (.getfield 19, 3) := by decide +kernel
theorem dX5_frame_49 : decode cX5_frame 49 = .ok (.iload_n 1, 1) := by decide +kernel
theorem dX5_frame_50 : decode cX5_frame 50 = .ok (.invokestatic 62, 3) := by decide +kernel
theorem dX5_frame_53 : decode cX5_frame 53 = .ok (.putfield 19, 3) := by decide +kernel
theorem dX5_frame_56 : decode cX5_frame 56 = .ok (.aload_n 0, 1) := by decide +kernel
theorem dX5_frame_57 : decode cX5_frame 57 = .ok (.iload_n 1, 1) := by decide +kernel
theorem dX5_frame_58 : decode cX5_frame 58 = .ok (.putfield 22, 3) := by decide +kernel
theorem dX5_frame_61 : decode cX5_frame 61 = .ok (.aload_n 0, 1) := by decide +kernel
theorem dX5_frame_62 : decode cX5_frame 62 = .ok (.getfield 15, 3) := by decide +kernel
theorem dX5_frame_65 : decode cX5_frame 65 = .ok (.iload_n 1, 1) := by decide +kernel
theorem dX5_frame_66 : decode cX5_frame 66 = .ok (.invokestatic 68, 3) := by decide +kernel
theorem dX5_frame_69 : decode cX5_frame 69 = .ok (.land, 1) := by decide +kernel
theorem dX5_frame_70 : decode cX5_frame 70 = .ok (.lconst 0, 1) := by decide +kernel
theorem dX5_frame_71 : decode cX5_frame 71 = .ok (.lcmp, 1) := by decide +kernel
theorem dX5_frame_72 : decode cX5_frame 72 = .ok (.ifCond .eq 20, 3) := by decide +kernel
theorem dX5_frame_75 : decode cX5_frame 75 = .ok (.aload_n 0, 1) := by decide +kernel
theorem dX5_frame_76 : decode cX5_frame 76 = .ok (.aload_n 0, 1) := by decide +kernel
theorem dX5_frame_77 : decode cX5_frame 77 = .ok (.getfield 25, 3) := by decide +kernel
theorem dX5_frame_80 : decode cX5_frame 80 = .ok (.iload_n 1, 1) := by decide +kernel
theorem dX5_frame_81 : decode cX5_frame 81 = .ok (.invokestatic 62, 3) := by decide +kernel
theorem dX5_frame_84 : decode cX5_frame 84 = .ok (.putfield 25, 3) := by decide +kernel
theorem dX5_frame_87 : decode cX5_frame 87 = .ok (.aload_n 0, 1) := by decide +kernel
theorem dX5_frame_88 : decode cX5_frame 88 = .ok (.iload_n 1, 1) := by decide +kernel
theorem dX5_frame_89 : decode cX5_frame 89 = .ok (.putfield 28, 3) := by decide +kernel
theorem dX5_frame_92 : decode cX5_frame 92 = .ok (.iinc 1 1, 3) := by decide +kernel
theorem dX5_frame_95 : decode cX5_frame 95 = .ok (.goto (-71), 3) := by decide +kernel
theorem dX5_frame_98 : decode cX5_frame 98 = .ok (.return_, 1) := by decide +kernel
theorem dX5_planPart_0 : decode cX5_planPart 0 = .ok (.iload_n 1, 1) := by decide +kernel
theorem dX5_planPart_1 : decode cX5_planPart 1 = .ok (.iload_n 2, 1) := by decide +kernel
theorem dX5_planPart_2 : decode cX5_planPart 2 = .ok (.iload_n 3, 1) := by decide +kernel
theorem dX5_planPart_3 : decode cX5_planPart 3 = .ok (.iload 4, 2) := by decide +kernel
theorem dX5_planPart_5 : decode cX5_planPart 5 = .ok (.invokestatic 42, 3) := by decide +kernel
theorem dX5_planPart_8 : decode cX5_planPart 8 = .ok (.istore 5, 2) := by decide +kernel
theorem dX5_planPart_10 : decode cX5_planPart 10 = .ok (.aload_n 0, 1) := by decide +kernel
theorem dX5_planPart_11 : decode cX5_planPart 11 = .ok (.getfield 15, 3) := by decide +kernel
theorem dX5_planPart_14 : decode cX5_planPart 14 = .ok (.iload_n 1, 1) := by decide +kernel
theorem dX5_planPart_15 : decode cX5_planPart 15 = .ok (.iload_n 2, 1) := by decide +kernel
theorem dX5_planPart_16 : decode cX5_planPart 16 = .ok (.iload_n 3, 1) := by decide +kernel
theorem dX5_planPart_17 : decode cX5_planPart 17 = .ok (.iload 4, 2) := by decide +kernel
theorem dX5_planPart_19 : decode cX5_planPart 19 = .ok (.invokestatic 71, 3) := by decide +kernel
theorem dX5_planPart_22 : decode cX5_planPart 22 = .ok (.land, 1) := by decide +kernel
theorem dX5_planPart_23 : decode cX5_planPart 23 = .ok (.lstore 6, 2) := by decide +kernel
theorem dX5_planPart_25 : decode cX5_planPart 25 = .ok (.aload_n 0, 1) := by decide +kernel
theorem dX5_planPart_26 : decode cX5_planPart 26 = .ok (.getfield 38, 3) := by decide +kernel
theorem dX5_planPart_29 : decode cX5_planPart 29 = .ok (.lload 6, 2) := by decide +kernel
theorem dX5_planPart_31 : decode cX5_planPart 31 = .ok (.invokevirtual 75, 3) := by decide +kernel
theorem dX5_planPart_34 : decode cX5_planPart 34 = .ok (.istore 8, 2) := by decide +kernel
theorem dX5_planPart_36 : decode cX5_planPart 36 = .ok (.aload_n 0, 1) := by decide +kernel
theorem dX5_planPart_37 : decode cX5_planPart 37 = .ok (.getfield 35, 3) := by decide +kernel
