theorem dX8_loadDrawing_136 : decode cX8_loadDrawing 136 = .ok (.ireturn, 1) := by decide +kernel
theorem dX8_setColour_0 : decode cX8_setColour 0 = .ok (.aload_n 0, 1) := by decide +kernel
theorem dX8_setColour_1 : decode cX8_setColour 1 = .ok (.iload_n 1, 1) := by decide +kernel
theorem dX8_setColour_2 : decode cX8_setColour 2 = .ok (.iload_n 2, 1) := by decide +kernel
theorem dX8_setColour_3 : decode cX8_setColour 3 = .ok (.invokevirtual 95, 3) := by decide +kernel
theorem dX8_setColour_6 : decode cX8_setColour 6 = .ok (.ifCond .eq 12, 3) := by decide +kernel
theorem dX8_setColour_9 : decode cX8_setColour 9 = .ok (.iload_n 3, 1) := by decide +kernel
theorem dX8_setColour_10 : decode cX8_setColour 10 = .ok (.iconst 0, 1) := by decide +kernel
theorem dX8_setColour_11 : decode cX8_setColour 11 = .ok (.iconst 5, 1) := by decide +kernel
theorem dX8_setColour_12 : decode cX8_setColour 12 = .ok (.invokestatic 65, 3) := by decide +kernel
theorem dX8_setColour_15 : decode cX8_setColour 15 = .ok (.ifCond .ne 5, 3) := by decide +kernel
theorem dX8_setColour_18 : decode cX8_setColour 18 = .ok (.iconst (-1), 1) := by decide +kernel
theorem dX8_setColour_19 : decode cX8_setColour 19 = .ok (.ireturn, 1) := by decide +kernel
theorem dX8_setColour_20 : decode cX8_setColour 20 = .ok (.iconst 4, 1) := by decide +kernel
theorem dX8_setColour_21 : decode cX8_setColour 21 = .ok (.bipush 7, 2) := by decide +kernel
theorem dX8_setColour_23 : decode cX8_setColour 23 = .ok (.iload_n 1, 1) := by decide +kernel
theorem dX8_setColour_24 : decode cX8_setColour 24 = .ok (.imul, 1) := by decide +kernel
theorem dX8_setColour_25 : decode cX8_setColour 25 = .ok (.iadd, 1) := by decide +kernel
theorem dX8_setColour_26 : decode cX8_setColour 26 = .ok (.iload_n 2, 1) := by decide +kernel
theorem dX8_setColour_27 : decode cX8_setColour 27 = .ok (.iadd, 1) := by decide +kernel
theorem dX8_setColour_28 : decode cX8_setColour 28 = .ok (.istore 4, 2) := by decide +kernel
theorem dX8_setColour_30 : decode cX8_setColour 30 = .ok (.aload_n 0, 1) := by decide +kernel
theorem dX8_setColour_31 : decode cX8_setColour 31 = .ok (.getfield 7, 3) := by decide +kernel
theorem dX8_setColour_34 : decode cX8_setColour 34 = .ok (.iload 4, 2) := by decide +kernel
theorem dX8_setColour_36 : decode cX8_setColour 36 = .ok (.iaload, 1) := by decide +kernel
theorem dX8_setColour_37 : decode cX8_setColour 37 = .ok (.iload_n 3, 1) := by decide +kernel
theorem dX8_setColour_38 : decode cX8_setColour 38 = .ok (.if_icmp .ne 8, 3) := by decide +kernel
theorem dX8_setColour_41 : decode cX8_setColour 41 = .ok (.bipush (-2), 2) := by decide +kernel
theorem dX8_setColour_43 : decode cX8_setColour 43 = .ok (.goto 10, 3) := by decide +kernel
theorem dX8_setColour_46 : decode cX8_setColour 46 = .ok (.aload_n 0, 1) := by decide +kernel
theorem dX8_setColour_47 : decode cX8_setColour 47 = .ok (.iload 4, 2) := by decide +kernel
theorem dX8_setColour_49 : decode cX8_setColour 49 = .ok (.iload_n 3, 1) := by decide +kernel
theorem dX8_setColour_50 : decode cX8_setColour 50 = .ok (.invokevirtual 99, 3) := by decide +kernel
theorem dX8_setColour_53 : decode cX8_setColour 53 = .ok (.ireturn, 1) := by decide +kernel
theorem dX8_rows_0 : decode cX8_rows 0 = .ok (.aload_n 0, 1) := by decide +kernel
theorem dX8_rows_1 : decode cX8_rows 1 = .ok (.getfield 7, 3) := by decide +kernel
theorem dX8_rows_4 : decode cX8_rows 4 = .ok (.iconst 0, 1) := by decide +kernel
theorem dX8_rows_5 : decode cX8_rows 5 = .ok (.iaload, 1) := by decide +kernel
theorem dX8_rows_6 : decode cX8_rows 6 = .ok (.ireturn, 1) := by decide +kernel
theorem dX8_columns_0 : decode cX8_columns 0 = .ok (.aload_n 0, 1) := by decide +kernel
theorem dX8_columns_1 : decode cX8_columns 1 = .ok (.getfield 7, 3) := by decide +kernel
theorem dX8_columns_4 : decode cX8_columns 4 = .ok (.iconst 1, 1) := by decide +kernel
theorem dX8_columns_5 : decode cX8_columns 5 = .ok (.iaload, 1) := by decide +kernel
theorem dX8_columns_6 : decode cX8_columns 6 = .ok (.ireturn, 1) := by decide +kernel
theorem dX8_colourAt_0 : decode cX8_colourAt 0 = .ok (.aload_n 0, 1) := by decide +kernel
theorem dX8_colourAt_1 : decode cX8_colourAt 1 = .ok (.iload_n 1, 1) := by decide +kernel
theorem dX8_colourAt_2 : decode cX8_colourAt 2 = .ok (.iload_n 2, 1) := by decide +kernel
theorem dX8_colourAt_3 : decode cX8_colourAt 3 = .ok (.invokevirtual 95, 3) := by decide +kernel
theorem dX8_colourAt_6 : decode cX8_colourAt 6 = .ok (.ifCond .eq 19, 3) := by decide +kernel
theorem dX8_colourAt_9 : decode cX8_colourAt 9 = .ok (.aload_n 0, 1) := by decide +kernel
theorem dX8_colourAt_10 : decode cX8_colourAt 10 = .ok (.getfield 7, 3) := by decide +kernel
theorem dX8_colourAt_13 : decode cX8_colourAt 13 = .ok (.iconst 4, 1) := by decide +kernel
theorem dX8_colourAt_14 : decode cX8_colourAt 14 = .ok (.bipush 7, 2) := by decide +kernel
theorem dX8_colourAt_16 : decode cX8_colourAt 16 = .ok (.iload_n 1, 1) := by decide +kernel
theorem dX8_colourAt_17 : decode cX8_colourAt 17 = .ok (.imul, 1) := by decide +kernel
theorem dX8_colourAt_18 : decode cX8_colourAt 18 = .ok (.iadd, 1) := by decide +kernel
theorem dX8_colourAt_19 : decode cX8_colourAt 19 = .ok (.iload_n 2, 1) := by decide +kernel
theorem dX8_colourAt_20 : decode cX8_colourAt 20 = .ok (.iadd, 1) := by decide +kernel
theorem dX8_colourAt_21 : decode cX8_colourAt 21 = .ok (.iaload, 1) := by decide +kernel
theorem dX8_colourAt_22 : decode cX8_colourAt 22 = .ok (.goto 4, 3) := by decide +kernel
theorem dX8_colourAt_25 : decode cX8_colourAt 25 = .ok (.iconst (-1), 1) := by decide +kernel
theorem dX8_colourAt_26 : decode cX8_colourAt 26 = .ok (.ireturn, 1) := by decide +kernel
theorem dX8_hasNext_0 : decode cX8_hasNext 0 = .ok (.iload_n 2, 1) := by decide +kernel
theorem dX8_hasNext_1 : decode cX8_hasNext 1 = .ok (.ifCond .ne 26, 3) := by decide +kernel
theorem dX8_hasNext_4 : decode cX8_hasNext 4 = .ok (.iload_n 1, 1) := by decide +kernel
theorem dX8_hasNext_5 : decode cX8_hasNext 5 = .ok (.bipush 7, 2) := by decide +kernel
theorem dX8_hasNext_7 : decode cX8_hasNext 7 = .ok (.irem, 1) := by decide +kernel
theorem dX8_hasNext_8 : decode cX8_hasNext 8 = .ok (.iconst 1, 1) := by decide +kernel
theorem dX8_hasNext_9 : decode cX8_hasNext 9 = .ok (.iadd, 1) := by decide +kernel
theorem dX8_hasNext_10 : decode cX8_hasNext 10 = .ok (.aload_n 0, 1) := by decide +kernel
theorem dX8_hasNext_11 : decode cX8_hasNext 11 = .ok (.getfield 7, 3) := by decide +kernel
theorem dX8_hasNext_14 : decode cX8_hasNext 14 = .ok (.iconst 1, 1) := by decide +kernel
theorem dX8_hasNext_15 : decode cX8_hasNext 15 = .ok (.iaload, 1) := by decide +kernel
theorem dX8_hasNext_16 : decode cX8_hasNext 16 = .ok (.if_icmp .ge 7, 3) := by decide +kernel
theorem dX8_hasNext_19 : decode cX8_hasNext 19 = .ok (.iconst 1, 1) := by decide +kernel
theorem dX8_hasNext_20 : decode cX8_hasNext 20 = .ok (.goto 27, 3) := by decide +kernel
theorem dX8_hasNext_23 : decode cX8_hasNext 23 = .ok (.iconst 0, 1) := by decide +kernel
theorem dX8_hasNext_24 : decode cX8_hasNext 24 = .ok (.goto 23, 3) := by decide +kernel
theorem dX8_hasNext_27 : decode cX8_hasNext 27 = .ok (.iload_n 1, 1) := by decide +kernel
theorem dX8_hasNext_28 : decode cX8_hasNext 28 = .ok (.bipush 7, 2) := by decide +kernel
theorem dX8_hasNext_30 : decode cX8_hasNext 30 = .ok (.idiv, 1) := by decide +kernel
theorem dX8_hasNext_31 : decode cX8_hasNext 31 = .ok (.iconst 1, 1) := by decide +kernel
theorem dX8_hasNext_32 : decode cX8_hasNext 32 = .ok (.iadd, 1) := by decide +kernel
theorem dX8_hasNext_33 : decode cX8_hasNext 33 = .ok (.aload_n 0, 1) := by decide +kernel
theorem dX8_hasNext_34 : decode cX8_hasNext 34 = .ok (.getfield 7, 3) := by decide +kernel
theorem dX8_hasNext_37 : decode cX8_hasNext 37 = .ok (.iconst 0, 1) := by decide +kernel
theorem dX8_hasNext_38 : decode cX8_hasNext 38 = .ok (.iaload, 1) := by decide +kernel
theorem dX8_hasNext_39 : decode cX8_hasNext 39 = .ok (.if_icmp .ge 7, 3) := by decide +kernel
theorem dX8_hasNext_42 : decode cX8_hasNext 42 = .ok (.iconst 1, 1) := by decide +kernel
theorem dX8_hasNext_43 : decode cX8_hasNext 43 = .ok (.goto 4, 3) := by decide +kernel
theorem dX8_hasNext_46 : decode cX8_hasNext 46 = .ok (.iconst 0, 1) := by decide +kernel
theorem dX8_hasNext_47 : decode cX8_hasNext 47 = .ok (.ireturn, 1) := by decide +kernel
theorem dX8_step_0 : decode cX8_step 0 = .ok (.iload_n 0, 1) := by decide +kernel
theorem dX8_step_1 : decode cX8_step 1 = .ok (.ifCond .ne 7, 3) := by decide +kernel
theorem dX8_step_4 : decode cX8_step 4 = .ok (.iconst 1, 1) := by decide +kernel
theorem dX8_step_5 : decode cX8_step 5 = .ok (.goto 5, 3) := by decide +kernel
theorem dX8_step_8 : decode cX8_step 8 = .ok (.bipush 7, 2) := by decide +kernel
theorem dX8_step_10 : decode cX8_step 10 = .ok (.ireturn, 1) := by decide +kernel
theorem dX8_joins_0 : decode cX8_joins 0 = .ok (.aload_n 0, 1) := by decide +kernel
theorem dX8_joins_1 : decode cX8_joins 1 = .ok (.iload_n 1, 1) := by decide +kernel
theorem dX8_joins_2 : decode cX8_joins 2 = .ok (.iload_n 2, 1) := by decide +kernel
theorem dX8_joins_3 : decode cX8_joins 3 = .ok (.invokevirtual 103, 3) := by decide +kernel
theorem dX8_joins_6 : decode cX8_joins 6 = .ok (.ifCond .eq 48, 3) := by decide +kernel
theorem dX8_joins_9 : decode cX8_joins 9 = .ok (.aload_n 0, 1) := by decide +kernel
theorem dX8_joins_10 : decode cX8_joins 10 = .ok (.getfield 7, 3) := by decide +kernel
theorem dX8_joins_13 : decode cX8_joins 13 = .ok (.iconst 4, 1) := by decide +kernel
theorem dX8_joins_14 : decode cX8_joins 14 = .ok (.iload_n 1, 1) := by decide +kernel
theorem dX8_joins_15 : decode cX8_joins 15 = .ok (.iadd, 1) := by decide +kernel
theorem dX8_joins_16 : decode cX8_joins 16 = .ok (.iaload, 1) := by decide +kernel
theorem dX8_joins_17 : decode cX8_joins 17 = .ok (.aload_n 0, 1) := by decide +kernel
theorem dX8_joins_18 : decode cX8_joins 18 = .ok (.getfield 7, 3) := by decide +kernel
theorem dX8_joins_21 : decode cX8_joins 21 = .ok (.iconst 4, 1) := by decide +kernel
theorem dX8_joins_22 : decode cX8_joins 22 = .ok (.iload_n 1, 1) := by decide +kernel
theorem dX8_joins_23 : decode cX8_joins 23 = .ok (.iadd, 1) := by decide +kernel
theorem dX8_joins_24 : decode cX8_joins 24 = .ok (.iload_n 2, 1) := by decide +kernel
theorem dX8_joins_25 : decode cX8_joins 25 = .ok (.invokestatic 106, 3) := by decide +kernel
theorem dX8_joins_28 : decode cX8_joins 28 = .ok (.iadd, 1) := by decide +kernel
theorem dX8_joins_29 : decode cX8_joins 29 = .ok (.iaload, 1) := by decide +kernel
theorem dX8_joins_30 : decode cX8_joins 30 = .ok (.if_icmp .ne 24, 3) := by decide +kernel
theorem dX8_joins_33 : decode cX8_joins 33 = .ok (.aload_n 0, 1) := by decide +kernel
theorem dX8_joins_34 : decode cX8_joins 34 = .ok (.getfield 7, 3) := by decide +kernel
theorem dX8_joins_37 : decode cX8_joins 37 = .ok (.bipush 53, 2) := by decide +kernel
theorem dX8_joins_39 : decode cX8_joins 39 = .ok (.bipush 49, 2) := by decide +kernel
theorem dX8_joins_41 : decode cX8_joins 41 = .ok (.iload_n 2, 1) := by decide +kernel
theorem dX8_joins_42 : decode cX8_joins 42 = .ok (.imul, 1) := by decide +kernel
theorem dX8_joins_43 : decode cX8_joins 43 = .ok (.iadd, 1) := by decide +kernel
theorem dX8_joins_44 : decode cX8_joins 44 = .ok (.iload_n 1, 1) := by decide +kernel
theorem dX8_joins_45 : decode cX8_joins 45 = .ok (.iadd, 1) := by decide +kernel
theorem dX8_joins_46 : decode cX8_joins 46 = .ok (.iaload, 1) := by decide +kernel
theorem dX8_joins_47 : decode cX8_joins 47 = .ok (.ifCond .ne 7, 3) := by decide +kernel
theorem dX8_joins_50 : decode cX8_joins 50 = .ok (.iconst 1, 1) := by decide +kernel
theorem dX8_joins_51 : decode cX8_joins 51 = .ok (.goto 4, 3) := by decide +kernel
theorem dX8_joins_54 : decode cX8_joins 54 = .ok (.iconst 0, 1) := by decide +kernel
theorem dX8_joins_55 : decode cX8_joins 55 = .ok (.ireturn, 1) := by decide +kernel
theorem dX8_isCut_0 : decode cX8_isCut 0 = .ok (.aload_n 0, 1) := by decide +kernel
theorem dX8_isCut_1 : decode cX8_isCut 1 = .ok (.iload_n 1, 1) := by decide +kernel
theorem dX8_isCut_2 : decode cX8_isCut 2 = .ok (.iload_n 2, 1) := by decide +kernel
theorem dX8_isCut_3 : decode cX8_isCut 3 = .ok (.invokevirtual 95, 3) := by decide +kernel
theorem dX8_isCut_6 : decode cX8_isCut 6 = .ok (.ifCond .eq 30, 3) := by decide +kernel
theorem dX8_isCut_9 : decode cX8_isCut 9 = .ok (.iload_n 3, 1) := by decide +kernel
theorem dX8_isCut_10 : decode cX8_isCut 10 = .ok (.iconst 0, 1) := by decide +kernel
theorem dX8_isCut_11 : decode cX8_isCut 11 = .ok (.iconst 1, 1) := by decide +kernel
theorem dX8_isCut_12 : decode cX8_isCut 12 = .ok (.invokestatic 65, 3) := by decide +kernel
theorem dX8_isCut_15 : decode cX8_isCut 15 = .ok (.ifCond .eq 21, 3) := by decide +kernel
theorem dX8_isCut_18 : decode cX8_isCut 18 = .ok (.aload_n 0, 1) := by decide +kernel
theorem dX8_isCut_19 : decode cX8_isCut 19 = .ok (.bipush 7, 2) := by decide +kernel
theorem dX8_isCut_21 : decode cX8_isCut 21 = .ok (.iload_n 1, 1) := by decide +kernel
theorem dX8_isCut_22 : decode cX8_isCut 22 = .ok (.imul, 1) := by decide +kernel
theorem dX8_isCut_23 : decode cX8_isCut 23 = .ok (.iload_n 2, 1) := by decide +kernel
theorem dX8_isCut_24 : decode cX8_isCut 24 = .ok (.iadd, 1) := by decide +kernel
theorem dX8_isCut_25 : decode cX8_isCut 25 = .ok (.iload_n 3, 1) := by decide +kernel
theorem dX8_isCut_26 : decode cX8_isCut 26 = .ok (.invokevirtual 103, 3) := by decide +kernel
theorem dX8_isCut_29 : decode cX8_isCut 29 = .ok (.ifCond .eq 7, 3) := by decide +kernel
theorem dX8_isCut_32 : decode cX8_isCut 32 = .ok (.iconst 1, 1) := by decide +kernel
theorem dX8_isCut_33 : decode cX8_isCut 33 = .ok (.goto 4, 3) := by decide +kernel
theorem dX8_isCut_36 : decode cX8_isCut 36 = .ok (.iconst 0, 1) := by decide +kernel
theorem dX8_isCut_37 : decode cX8_isCut 37 = .ok (.ireturn, 1) := by decide +kernel
theorem dX8_cuts_0 : decode cX8_cuts 0 = .ok (.iconst 0, 1) := by decide +kernel
theorem dX8_cuts_1 : decode cX8_cuts 1 = .ok (.istore_n 1, 1) := by decide +kernel
theorem dX8_cuts_2 : decode cX8_cuts 2 = .ok (.iconst 0, 1) := by decide +kernel
theorem dX8_cuts_3 : decode cX8_cuts 3 = .ok (.istore_n 2, 1) := by decide +kernel
theorem dX8_cuts_4 : decode cX8_cuts 4 = .ok (.iload_n 2, 1) := by decide +kernel
theorem dX8_cuts_5 : decode cX8_cuts 5 = .ok (.bipush 98, 2) := by decide +kernel
theorem dX8_cuts_7 : decode cX8_cuts 7 = .ok (.if_icmp .ge 21, 3) := by decide +kernel
theorem dX8_cuts_10 : decode cX8_cuts 10 = .ok (.iload_n 1, 1) := by decide +kernel
theorem dX8_cuts_11 : decode cX8_cuts 11 = .ok (.aload_n 0, 1) := by decide +kernel
theorem dX8_cuts_12 : decode cX8_cuts 12 = .ok (.getfield 7, 3) := by decide +kernel
theorem dX8_cuts_15 : decode cX8_cuts 15 = .ok (.bipush 53, 2) := by decide +kernel
theorem dX8_cuts_17 : decode cX8_cuts 17 = .ok (.iload_n 2, 1) := by decide +kernel
theorem dX8_cuts_18 : decode cX8_cuts 18 = .ok (.iadd, 1) := by decide +kernel
theorem dX8_cuts_19 : decode cX8_cuts 19 = .ok (.iaload, 1) := by decide +kernel
theorem dX8_cuts_20 : decode cX8_cuts 20 = .ok (.iadd, 1) := by decide +kernel
theorem dX8_cuts_21 : decode cX8_cuts 21 = .ok (.istore_n 1, 1) := by decide +kernel
theorem dX8_cuts_22 : decode cX8_cuts 22 = .ok (.iinc 2 1, 3) := by decide +kernel
theorem dX8_cuts_25 : decode cX8_cuts 25 = .ok (.goto (-21), 3) := by decide +kernel
theorem dX8_cuts_28 : decode cX8_cuts 28 = .ok (.iload_n 1, 1) := by decide +kernel
theorem dX8_cuts_29 : decode cX8_cuts 29 = .ok (.ireturn, 1) := by decide +kernel
theorem dX8_addCut_0 : decode cX8_addCut 0 = .ok (.aload_n 0, 1) := by decide +kernel
theorem dX8_addCut_1 : decode cX8_addCut 1 = .ok (.iload_n 1, 1) := by decide +kernel
theorem dX8_addCut_2 : decode cX8_addCut 2 = .ok (.iload_n 2, 1) := by decide +kernel
theorem dX8_addCut_3 : decode cX8_addCut 3 = .ok (.iload_n 3, 1) := by decide +kernel
theorem dX8_addCut_4 : decode cX8_addCut 4 = .ok (.invokevirtual 110, 3) := by decide +kernel
theorem dX8_addCut_7 : decode cX8_addCut 7 = .ok (.ifCond .ne 5, 3) := by decide +kernel
theorem dX8_addCut_10 : decode cX8_addCut 10 = .ok (.iconst (-1), 1) := by decide +kernel
theorem dX8_addCut_11 : decode cX8_addCut 11 = .ok (.ireturn, 1) := by decide +kernel
theorem dX8_addCut_12 : decode cX8_addCut 12 = .ok (.bipush 53, 2) := by decide +kernel
theorem dX8_addCut_14 : decode cX8_addCut 14 = .ok (.bipush 49, 2) := by decide +kernel
theorem dX8_addCut_16 : decode cX8_addCut 16 = .ok (.iload_n 3, 1) := by decide +kernel
theorem dX8_addCut_17 : decode cX8_addCut 17 = .ok (.imul, 1) := by decide +kernel
theorem dX8_addCut_18 : decode cX8_addCut 18 = .ok (.iadd, 1) := by decide +kernel
theorem dX8_addCut_19 : decode cX8_addCut 19 = .ok (.bipush 7, 2) := by decide +kernel
theorem dX8_addCut_21 : decode cX8_addCut 21 = .ok (.iload_n 1, 1) := by decide +kernel
theorem dX8_addCut_22 : decode cX8_addCut 22 = .ok (.imul, 1) := by decide +kernel
theorem dX8_addCut_23 : decode cX8_addCut 23 = .ok (.iadd, 1) := by decide +kernel
theorem dX8_addCut_24 : decode cX8_addCut 24 = .ok (.iload_n 2, 1) := by decide +kernel
theorem dX8_addCut_25 : decode cX8_addCut 25 = .ok (.iadd, 1) := by decide +kernel
theorem dX8_addCut_26 : decode cX8_addCut 26 = .ok (.istore 4, 2) := by decide +kernel
theorem dX8_addCut_28 : decode cX8_addCut 28 = .ok (.aload_n 0, 1) := by decide +kernel
theorem dX8_addCut_29 : decode cX8_addCut 29 = .ok (.getfield 7, 3) := by decide +kernel
theorem dX8_addCut_32 : decode cX8_addCut 32 = .ok (.iload 4, 2) := by decide +kernel
theorem dX8_addCut_34 : decode cX8_addCut 34 = .ok (.iaload, 1) := by decide +kernel
theorem dX8_addCut_35 : decode cX8_addCut 35 = .ok (.iconst 1, 1) := by decide +kernel
theorem dX8_addCut_36 : decode cX8_addCut 36 = .ok (.if_icmp .ne 6, 3) := by decide +kernel
theorem dX8_addCut_39 : decode cX8_addCut 39 = .ok (.bipush (-2), 2) := by decide +kernel
theorem dX8_addCut_41 : decode cX8_addCut 41 = .ok (.ireturn, 1) := by decide +kernel
theorem dX8_addCut_42 : decode cX8_addCut 42 = .ok (.aload_n 0, 1) := by decide +kernel
theorem dX8_addCut_43 : decode cX8_addCut 43 = .ok (.iload 4, 2) := by decide +kernel
theorem dX8_addCut_45 : decode cX8_addCut 45 = .ok (.iconst 1, 1) := by decide +kernel
theorem dX8_addCut_46 : decode cX8_addCut 46 = .ok (.invokevirtual 99, 3) := by decide +kernel
theorem dX8_addCut_49 : decode cX8_addCut 49 = .ok (.istore 5, 2) := by decide +kernel
theorem dX8_addCut_51 : decode cX8_addCut 51 = .ok (.aload_n 0, 1) := by decide +kernel
theorem dX8_addCut_52 : decode cX8_addCut 52 = .ok (.invokevirtual 113, 3) := by decide +kernel
theorem dX8_addCut_55 : decode cX8_addCut 55 = .ok (.ireturn, 1) := by decide +kernel
theorem dX8_removeCut_0 : decode cX8_removeCut 0 = .ok (.aload_n 0, 1) := by decide +kernel
theorem dX8_removeCut_1 : decode cX8_removeCut 1 = .ok (.iload_n 1, 1) := by decide +kernel
theorem dX8_removeCut_2 : decode cX8_removeCut 2 = .ok (.iload_n 2, 1) := by decide +kernel
theorem dX8_removeCut_3 : decode cX8_removeCut 3 = .ok (.iload_n 3, 1) := by decide +kernel
theorem dX8_removeCut_4 : decode cX8_removeCut 4 = .ok (.invokevirtual 110, 3) := by decide +kernel
theorem dX8_removeCut_7 : decode cX8_removeCut 7 = .ok (.ifCond .ne 5, 3) := by decide +kernel
theorem dX8_removeCut_10 : decode cX8_removeCut 10 = .ok (.iconst (-1), 1) := by decide +kernel
theorem dX8_removeCut_11 : decode cX8_removeCut 11 = .ok (.ireturn, 1) := by decide +kernel
theorem dX8_removeCut_12 : decode cX8_removeCut 12 = .ok (.bipush 53, 2) := by decide +kernel
theorem dX8_removeCut_14 : decode cX8_removeCut 14 = .ok (.bipush 49, 2) := by decide +kernel
theorem dX8_removeCut_16 : decode cX8_removeCut 16 = .ok (.iload_n 3, 1) := by decide +kernel
theorem dX8_removeCut_17 : decode cX8_removeCut 17 = .ok (.imul, 1) := by decide +kernel
theorem dX8_removeCut_18 : decode cX8_removeCut 18 = .ok (.iadd, 1) := by decide +kernel
theorem dX8_removeCut_19 : decode cX8_removeCut 19 = .ok (.bipush 7, 2) := by decide +kernel
theorem dX8_removeCut_21 : decode cX8_removeCut 21 = .ok (.iload_n 1, 1) := by decide +kernel
theorem dX8_removeCut_22 : decode cX8_removeCut 22 = .ok (.imul, 1) := by decide +kernel
theorem dX8_removeCut_23 : decode cX8_removeCut 23 = .ok (.iadd, 1) := by decide +kernel
theorem dX8_removeCut_24 : decode cX8_removeCut 24 = .ok (.iload_n 2, 1) := by decide +kernel
theorem dX8_removeCut_25 : decode cX8_removeCut 25 = .ok (.iadd, 1) := by decide +kernel
theorem dX8_removeCut_26 : decode cX8_removeCut 26 = .ok (.istore 4, 2) := by decide +kernel
theorem dX8_removeCut_28 : decode cX8_removeCut 28 = .ok (.aload_n 0, 1) := by decide +kernel
theorem dX8_removeCut_29 : decode cX8_removeCut 29 = .ok (.getfield 7, 3) := by decide +kernel
theorem dX8_removeCut_32 : decode cX8_removeCut 32 = .ok (.iload 4, 2) := by decide +kernel
theorem dX8_removeCut_34 : decode cX8_removeCut 34 = .ok (.iaload, 1) := by decide +kernel
theorem dX8_removeCut_35 : decode cX8_removeCut 35 = .ok (.ifCond .ne 6, 3) := by decide +kernel
theorem dX8_removeCut_38 : decode cX8_removeCut 38 = .ok (.bipush (-2), 2) := by decide +kernel
theorem dX8_removeCut_40 : decode cX8_removeCut 40 = .ok (.ireturn, 1) := by decide +kernel
theorem dX8_removeCut_41 : decode cX8_removeCut 41 = .ok (.aload_n 0, 1) := by decide +kernel
theorem dX8_removeCut_42 : decode cX8_removeCut 42 = .ok (.iload 4, 2) := by decide +kernel
theorem dX8_removeCut_44 : decode cX8_removeCut 44 = .ok (.iconst 0, 1) := by decide +kernel
theorem dX8_removeCut_45 : decode cX8_removeCut 45 = .ok (.invokevirtual 99, 3) := by decide +kernel
theorem dX8_removeCut_48 : decode cX8_removeCut 48 = .ok (.istore 5, 2) := by decide +kernel
theorem dX8_removeCut_50 : decode cX8_removeCut 50 = .ok (.aload_n 0, 1) := by decide +kernel
theorem dX8_removeCut_51 : decode cX8_removeCut 51 = .ok (.invokevirtual 113, 3) := by decide +kernel
theorem dX8_removeCut_54 : decode cX8_removeCut 54 = .ok (.ireturn, 1) := by decide +kernel
theorem dX8_spread_0 : decode cX8_spread 0 = .ok (.aload_n 1, 1) := by decide +kernel
theorem dX8_spread_1 : decode cX8_spread 1 = .ok (.iload_n 2, 1) := by decide +kernel
theorem dX8_spread_2 : decode cX8_spread 2 = .ok (.iload_n 3, 1) := by decide +kernel
theorem dX8_spread_3 : decode cX8_spread 3 = .ok (.iastore, 1) := by decide +kernel
theorem dX8_spread_4 : decode cX8_spread 4 = .ok (.aload_n 0, 1) := by decide +kernel
theorem dX8_spread_5 : decode cX8_spread 5 = .ok (.getfield 22, 3) := by decide +kernel
theorem dX8_spread_8 : decode cX8_spread 8 = .ok (.iconst 0, 1) := by decide +kernel
theorem dX8_spread_9 : decode cX8_spread 9 = .ok (.iload_n 2, 1) := by decide +kernel
theorem dX8_spread_10 : decode cX8_spread 10 = .ok (.iastore, 1) := by decide +kernel
theorem dX8_spread_11 : decode cX8_spread 11 = .ok (.iconst 1, 1) := by decide +kernel
theorem dX8_spread_12 : decode cX8_spread 12 = .ok (.istore 4, 2) := by decide +kernel
theorem dX8_spread_14 : decode cX8_spread 14 = .ok (.iconst 0, 1) := by decide +kernel
theorem dX8_spread_15 : decode cX8_spread 15 = .ok (.istore 5, 2) := by decide +kernel
theorem dX8_spread_17 : decode cX8_spread 17 = .ok (.iload 5, 2) := by decide +kernel
theorem dX8_spread_19 : decode cX8_spread 19 = .ok (.iload 4, 2) := by decide +kernel
theorem dX8_spread_21 : decode cX8_spread 21 = .ok (.if_icmp .ge 213, 3) := by decide +kernel
theorem dX8_spread_24 : decode cX8_spread 24 = .ok (.aload_n 0, 1) := by decide +kernel
theorem dX8_spread_25 : decode cX8_spread 25 = .ok (.getfield 22, 3) := by decide +kernel
theorem dX8_spread_28 : decode cX8_spread 28 = .ok (.iload 5, 2) := by decide +kernel
theorem dX8_spread_30 : decode cX8_spread 30 = .ok (.iaload, 1) := by decide +kernel
theorem dX8_spread_31 : decode cX8_spread 31 = .ok (.istore 6, 2) := by decide +kernel
theorem dX8_spread_33 : decode cX8_spread 33 = .ok (.iconst 0, 1) := by decide +kernel
theorem dX8_spread_34 : decode cX8_spread 34 = .ok (.istore 7, 2) := by decide +kernel
theorem dX8_spread_36 : decode cX8_spread 36 = .ok (.iload 7, 2) := by decide +kernel
theorem dX8_spread_38 : decode cX8_spread 38 = .ok (.iconst 4, 1) := by decide +kernel
theorem dX8_spread_39 : decode cX8_spread 39 = .ok (.if_icmp .ge 189, 3) := by decide +kernel
theorem dX8_spread_42 : decode cX8_spread 42 = .ok (.iload 7, 2) := by decide +kernel
theorem dX8_spread_44 : decode cX8_spread 44 = .ok (.iconst 2, 1) := by decide +kernel
theorem dX8_spread_45 : decode cX8_spread 45 = .ok (.irem, 1) := by decide +kernel
theorem dX8_spread_46 : decode cX8_spread 46 = .ok (.istore 8, 2) := by decide +kernel
theorem dX8_spread_48 : decode cX8_spread 48 = .ok (.iload 7, 2) := by decide +kernel
theorem dX8_spread_50 : decode cX8_spread 50 = .ok (.iconst 2, 1) := by decide +kernel
theorem dX8_spread_51 : decode cX8_spread 51 = .ok (.if_icmp .ge 14, 3) := by decide +kernel
theorem dX8_spread_54 : decode cX8_spread 54 = .ok (.iload 6, 2) := by decide +kernel
theorem dX8_spread_56 : decode cX8_spread 56 = .ok (.iload 8, 2) := by decide +kernel
theorem dX8_spread_58 : decode cX8_spread 58 = .ok (.invokestatic 106, 3) := by decide +kernel
theorem dX8_spread_61 : decode cX8_spread 61 = .ok (.iadd, 1) := by decide +kernel
theorem dX8_spread_62 : decode cX8_spread 62 = .ok (.goto 11, 3) := by decide +kernel
theorem dX8_spread_65 : decode cX8_spread 65 = .ok (.iload 6, 2) := by decide +kernel
theorem dX8_spread_67 : decode cX8_spread 67 = .ok (.iload 8, 2) := by decide +kernel
theorem dX8_spread_69 : decode cX8_spread 69 = .ok (.invokestatic 106, 3) := by decide +kernel
theorem dX8_spread_72 : decode cX8_spread 72 = .ok (.isub, 1) := by decide +kernel
theorem dX8_spread_73 : decode cX8_spread 73 = .ok (.istore 9, 2) := by decide +kernel
theorem dX8_spread_75 : decode cX8_spread 75 = .ok (.iload 7, 2) := by decide +kernel
theorem dX8_spread_77 : decode cX8_spread 77 = .ok (.ifCond .ne 23, 3) := by decide +kernel
theorem dX8_spread_80 : decode cX8_spread 80 = .ok (.iload 6, 2) := by decide +kernel
theorem dX8_spread_82 : decode cX8_spread 82 = .ok (.bipush 7, 2) := by decide +kernel
theorem dX8_spread_84 : decode cX8_spread 84 = .ok (.irem, 1) := by decide +kernel
theorem dX8_spread_85 : decode cX8_spread 85 = .ok (.aload_n 0, 1) := by decide +kernel
theorem dX8_spread_86 : decode cX8_spread 86 = .ok (.getfield 116, 3) := by decide +kernel
theorem dX8_spread_89 : decode cX8_spread 89 = .ok (.if_icmp .ge 7, 3) := by decide +kernel
theorem dX8_spread_92 : decode cX8_spread 92 = .ok (.iconst 1, 1) := by decide +kernel
theorem dX8_spread_93 : decode cX8_spread 93 = .ok (.goto 76, 3) := by decide +kernel
theorem dX8_spread_96 : decode cX8_spread 96 = .ok (.iconst 0, 1) := by decide +kernel
theorem dX8_spread_97 : decode cX8_spread 97 = .ok (.goto 72, 3) := by decide +kernel
theorem dX8_spread_100 : decode cX8_spread 100 = .ok (.iload 7, 2) := by decide +kernel
theorem dX8_spread_102 : decode cX8_spread 102 = .ok (.iconst 1, 1) := by decide +kernel
theorem dX8_spread_103 : decode cX8_spread 103 = .ok (.if_icmp .ne 23, 3) := by decide +kernel
theorem dX8_spread_106 : decode cX8_spread 106 = .ok (.iload 6, 2) := by decide +kernel
theorem dX8_spread_108 : decode cX8_spread 108 = .ok (.bipush 7, 2) := by decide +kernel
theorem dX8_spread_110 : decode cX8_spread 110 = .ok (.idiv, 1) := by decide +kernel
theorem dX8_spread_111 : decode cX8_spread 111 = .ok (.aload_n 0, 1) := by decide +kernel
theorem dX8_spread_112 : decode cX8_spread 112 = .ok (.getfield 119, 3) := by decide +kernel
theorem dX8_spread_115 : decode cX8_spread 115 = .ok (.if_icmp .ge 7, 3) := by decide +kernel
theorem dX8_spread_118 : decode cX8_spread 118 = .ok (.iconst 1, 1) := by decide +kernel
theorem dX8_spread_119 : decode cX8_spread 119 = .ok (.goto 50, 3) := by decide +kernel
theorem dX8_spread_122 : decode cX8_spread 122 = .ok (.iconst 0, 1) := by decide +kernel
theorem dX8_spread_123 : decode cX8_spread 123 = .ok (.goto 46, 3) := by decide +kernel
theorem dX8_spread_126 : decode cX8_spread 126 = .ok (.iload 7, 2) := by decide +kernel
theorem dX8_spread_128 : decode cX8_spread 128 = .ok (.iconst 2, 1) := by decide +kernel
theorem dX8_spread_129 : decode cX8_spread 129 = .ok (.if_icmp .ne 23, 3) := by decide +kernel
theorem dX8_spread_132 : decode cX8_spread 132 = .ok (.iload 6, 2) := by decide +kernel
theorem dX8_spread_134 : decode cX8_spread 134 = .ok (.bipush 7, 2) := by decide +kernel
theorem dX8_spread_136 : decode cX8_spread 136 = .ok (.irem, 1) := by decide +kernel
theorem dX8_spread_137 : decode cX8_spread 137 = .ok (.aload_n 0, 1) := by decide +kernel
theorem dX8_spread_138 : decode cX8_spread 138 = .ok (.getfield 122, 3) := by decide +kernel
theorem dX8_spread_141 : decode cX8_spread 141 = .ok (.if_icmp .le 7, 3) := by decide +kernel
theorem dX8_spread_144 : decode cX8_spread 144 = .ok (.iconst 1, 1) := by decide +kernel
theorem dX8_spread_145 : decode cX8_spread 145 = .ok (.goto 24, 3) := by decide +kernel
theorem dX8_spread_148 : decode cX8_spread 148 = .ok (.iconst 0, 1) := by decide +kernel
theorem dX8_spread_149 : decode cX8_spread 149 = .ok (.goto 20, 3) := by decide +kernel
theorem dX8_spread_152 : decode cX8_spread 152 = .ok (.iload 6, 2) := by decide +kernel
theorem dX8_spread_154 : decode cX8_spread 154 = .ok (.bipush 7, 2) := by decide +kernel
theorem dX8_spread_156 : decode cX8_spread 156 = .ok (.idiv, 1) := by decide +kernel
theorem dX8_spread_157 : decode cX8_spread 157 = .ok (.aload_n 0, 1) := by decide +kernel
theorem dX8_spread_158 : decode cX8_spread 158 = .ok (.getfield 125, 3) := by decide +kernel
theorem dX8_spread_161 : decode cX8_spread 161 = .ok (.if_icmp .le 7, 3) := by decide +kernel
theorem dX8_spread_164 : decode cX8_spread 164 = .ok (.iconst 1, 1) := by decide +kernel
theorem dX8_spread_165 : decode cX8_spread 165 = .ok (.goto 4, 3) := by decide +kernel
theorem dX8_spread_168 : decode cX8_spread 168 = .ok (.iconst 0, 1) := by decide +kernel
theorem dX8_spread_169 : decode cX8_spread 169 = .ok (.istore 10, 2) := by decide +kernel
theorem dX8_spread_171 : decode cX8_spread 171 = .ok (.iload 10, 2) := by decide +kernel
theorem dX8_spread_173 : decode cX8_spread 173 = .ok (.ifCond .eq 49, 3) := by decide +kernel
theorem dX8_spread_176 : decode cX8_spread 176 = .ok (.aload_n 0, 1) := by decide +kernel
theorem dX8_spread_177 : decode cX8_spread 177 = .ok (.iload 7, 2) := by decide +kernel
theorem dX8_spread_179 : decode cX8_spread 179 = .ok (.iconst 2, 1) := by decide +kernel
theorem dX8_spread_180 : decode cX8_spread 180 = .ok (.if_icmp .ge 8, 3) := by decide +kernel
theorem dX8_spread_183 : decode cX8_spread 183 = .ok (.iload 6, 2) := by decide +kernel
theorem dX8_spread_185 : decode cX8_spread 185 = .ok (.goto 5, 3) := by decide +kernel
theorem dX8_spread_188 : decode cX8_spread 188 = .ok (.iload 9, 2) := by decide +kernel
theorem dX8_spread_190 : decode cX8_spread 190 = .ok (.iload 8, 2) := by decide +kernel
theorem dX8_spread_192 : decode cX8_spread 192 = .ok (.invokevirtual 128, 3) := by decide +kernel
theorem dX8_spread_195 : decode cX8_spread 195 = .ok (.ifCond .eq 27, 3) := by decide +kernel
theorem dX8_spread_198 : decode cX8_spread 198 = .ok (.aload_n 1, 1) := by decide +kernel
theorem dX8_spread_199 : decode cX8_spread 199 = .ok (.iload 9, 2) := by decide +kernel
theorem dX8_spread_201 : decode cX8_spread 201 = .ok (.iaload, 1) := by decide +kernel
theorem dX8_spread_202 : decode cX8_spread 202 = .ok (.ifCond .ge 20, 3) := by decide +kernel
theorem dX8_spread_205 : decode cX8_spread 205 = .ok (.aload_n 1, 1) := by decide +kernel
theorem dX8_spread_206 : decode cX8_spread 206 = .ok (.iload 9, 2) := by decide +kernel
theorem dX8_spread_208 : decode cX8_spread 208 = .ok (.iload_n 3, 1) := by decide +kernel
theorem dX8_spread_209 : decode cX8_spread 209 = .ok (.iastore, 1) := by decide +kernel
theorem dX8_spread_210 : decode cX8_spread 210 = .ok (.aload_n 0, 1) := by decide +kernel
theorem dX8_spread_211 : decode cX8_spread 211 = .ok (.getfield 22, 3) := by decide +kernel
theorem dX8_spread_214 : decode cX8_spread 214 = .ok (.iload 4, 2) := by decide +kernel
theorem dX8_spread_216 : decode cX8_spread 216 = .ok (.iload 9, 2) := by decide +kernel
theorem dX8_spread_218 : decode cX8_spread 218 = .ok (.iastore, 1) := by decide +kernel
theorem dX8_spread_219 : decode cX8_spread 219 = .ok (.iinc 4 1, 3) := by decide +kernel
theorem dX8_spread_222 : decode cX8_spread 222 = .ok (.iinc 7 1, 3) := by decide +kernel
theorem dX8_spread_225 : decode cX8_spread 225 = .ok (.goto (-189), 3) := by decide +kernel
theorem dX8_spread_228 : decode cX8_spread 228 = .ok (.iinc 5 1, 3) := by decide +kernel
theorem dX8_spread_231 : decode cX8_spread 231 = .ok (.goto (-214), 3) := by decide +kernel
theorem dX8_spread_234 : decode cX8_spread 234 = .ok (.iload 4, 2) := by decide +kernel
theorem dX8_spread_236 : decode cX8_spread 236 = .ok (.ireturn, 1) := by decide +kernel
theorem dX8_wholeDrawing_0 : decode cX8_wholeDrawing 0 = .ok (.aload_n 0, 1) := by decide +kernel
theorem dX8_wholeDrawing_1 : decode cX8_wholeDrawing 1 = .ok (.iconst 0, 1) := by decide +kernel
theorem dX8_wholeDrawing_2 : decode cX8_wholeDrawing 2 = .ok (.putfield 125, 3) := by decide +kernel
theorem dX8_wholeDrawing_5 : decode cX8_wholeDrawing 5 = .ok (.aload_n 0, 1) := by decide +kernel
theorem dX8_wholeDrawing_6 : decode cX8_wholeDrawing 6 = .ok (.aload_n 0, 1) := by decide +kernel
theorem dX8_wholeDrawing_7 : decode cX8_wholeDrawing 7 = .ok (.getfield 7, 3) := by decide +kernel
theorem dX8_wholeDrawing_10 : decode cX8_wholeDrawing 10 = .ok (.iconst 0, 1) := by decide +kernel
theorem dX8_wholeDrawing_11 : decode cX8_wholeDrawing 11 = .ok (.iaload, 1) := by decide +kernel
theorem dX8_wholeDrawing_12 : decode cX8_wholeDrawing 12 = .ok (.iconst 1, 1) := by decide +kernel
theorem dX8_wholeDrawing_13 : decode cX8_wholeDrawing 13 = .ok (.isub, 1) := by decide +kernel
theorem dX8_wholeDrawing_14 : decode cX8_wholeDrawing 14 = .ok (.putfield 119, 3) := by decide +kernel
theorem dX8_wholeDrawing_17 : decode cX8_wholeDrawing 17 = .ok (.aload_n 0, 1) := by decide +kernel
theorem dX8_wholeDrawing_18 : decode cX8_wholeDrawing 18 = .ok (.iconst 0, 1) := by decide +kernel
theorem dX8_wholeDrawing_19 : decode cX8_wholeDrawing 19 = .ok (.putfield 122, 3) := by decide +kernel
theorem dX8_wholeDrawing_22 : decode cX8_wholeDrawing 22 = .ok (.aload_n 0, 1) := by decide +kernel
theorem dX8_wholeDrawing_23 : decode cX8_wholeDrawing 23 = .ok (.aload_n 0, 1) := by decide +kernel
theorem dX8_wholeDrawing_24 : decode cX8_wholeDrawing 24 = .ok (.getfield 7, 3) := by decide +kernel
theorem dX8_wholeDrawing_27 : decode cX8_wholeDrawing 27 = .ok (.iconst 1, 1) := by decide +kernel
theorem dX8_wholeDrawing_28 : decode cX8_wholeDrawing 28 = .ok (.iaload, 1) := by decide +kernel
theorem dX8_wholeDrawing_29 : decode cX8_wholeDrawing 29 = .ok (.iconst 1, 1) := by decide +kernel
theorem dX8_wholeDrawing_30 : decode cX8_wholeDrawing 30 = .ok (.isub, 1) := by decide +kernel
theorem dX8_wholeDrawing_31 : decode cX8_wholeDrawing 31 = .ok (.putfield 116, 3) := by decide +kernel
theorem dX8_wholeDrawing_34 : decode cX8_wholeDrawing 34 = .ok (.return_, 1) := by decide +kernel
theorem dX8_findPanes_0 : decode cX8_findPanes 0 = .ok (.aload_n 0, 1) := by decide +kernel
theorem dX8_findPanes_1 : decode cX8_findPanes 1 = .ok (.invokevirtual 131, 3) := by decide +kernel
theorem dX8_findPanes_4 : decode cX8_findPanes 4 = .ok (.aload_n 0, 1) := by decide +kernel
theorem dX8_findPanes_5 : decode cX8_findPanes 5 = .ok (.iconst 0, 1) := by decide +kernel
theorem dX8_findPanes_6 : decode cX8_findPanes 6 = .ok (.putfield 92, 3) := by decide +kernel
theorem dX8_findPanes_9 : decode cX8_findPanes 9 = .ok (.iconst 0, 1) := by decide +kernel
theorem dX8_findPanes_10 : decode cX8_findPanes 10 = .ok (.istore_n 1, 1) := by decide +kernel
theorem dX8_findPanes_11 : decode cX8_findPanes 11 = .ok (.iload_n 1, 1) := by decide +kernel
theorem dX8_findPanes_12 : decode cX8_findPanes 12 = .ok (.bipush 49, 2) := by decide +kernel
theorem dX8_findPanes_14 : decode cX8_findPanes 14 = .ok (.if_icmp .ge 16, 3) := by decide +kernel
theorem dX8_findPanes_17 : decode cX8_findPanes 17 = .ok (.aload_n 0, 1) := by decide +kernel
theorem dX8_findPanes_18 : decode cX8_findPanes 18 = .ok (.getfield 25, 3) := by decide +kernel
theorem dX8_findPanes_21 : decode cX8_findPanes 21 = .ok (.iload_n 1, 1) := by decide +kernel
theorem dX8_findPanes_22 : decode cX8_findPanes 22 = .ok (.iconst (-1), 1) := by decide +kernel
theorem dX8_findPanes_23 : decode cX8_findPanes 23 = .ok (.iastore, 1) := by decide +kernel
theorem dX8_findPanes_24 : decode cX8_findPanes 24 = .ok (.iinc 1 1, 3) := by decide +kernel
theorem dX8_findPanes_27 : decode cX8_findPanes 27 = .ok (.goto (-16), 3) := by decide +kernel
theorem dX8_findPanes_30 : decode cX8_findPanes 30 = .ok (.iconst 0, 1) := by decide +kernel
theorem dX8_findPanes_31 : decode cX8_findPanes 31 = .ok (.istore_n 1, 1) := by decide +kernel
theorem dX8_findPanes_32 : decode cX8_findPanes 32 = .ok (.iload_n 1, 1) := by decide +kernel
theorem dX8_findPanes_33 : decode cX8_findPanes 33 = .ok (.bipush 49, 2) := by decide +kernel
theorem dX8_findPanes_35 : decode cX8_findPanes 35 = .ok (.if_icmp .ge 65, 3) := by decide +kernel
theorem dX8_findPanes_38 : decode cX8_findPanes 38 = .ok (.aload_n 0, 1) := by decide +kernel
theorem dX8_findPanes_39 : decode cX8_findPanes 39 = .ok (.iload_n 1, 1) := by decide +kernel
theorem dX8_findPanes_40 : decode cX8_findPanes 40 = .ok (.bipush 7, 2) := by decide +kernel
theorem dX8_findPanes_42 : decode cX8_findPanes 42 = .ok (.idiv, 1) := by decide +kernel
theorem dX8_findPanes_43 : decode cX8_findPanes 43 = .ok (.iload_n 1, 1) := by decide +kernel
theorem dX8_findPanes_44 : decode cX8_findPanes 44 = .ok (.bipush 7, 2) := by decide +kernel
theorem dX8_findPanes_46 : decode cX8_findPanes 46 = .ok (.irem, 1) := by decide +kernel
theorem dX8_findPanes_47 : decode cX8_findPanes 47 = .ok (.invokevirtual 95, 3) := by decide +kernel
theorem dX8_findPanes_50 : decode cX8_findPanes 50 = .ok (.ifCond .eq 44, 3) := by decide +kernel
theorem dX8_findPanes_53 : decode cX8_findPanes 53 = .ok (.aload_n 0, 1) := by decide +kernel
theorem dX8_findPanes_54 : decode cX8_findPanes 54 = .ok (.getfield 25, 3) := by decide +kernel
theorem dX8_findPanes_57 : decode cX8_findPanes 57 = .ok (.iload_n 1, 1) := by decide +kernel
theorem dX8_findPanes_58 : decode cX8_findPanes 58 = .ok (.iaload, 1) := by decide +kernel
theorem dX8_findPanes_59 : decode cX8_findPanes 59 = .ok (.ifCond .ge 35, 3) := by decide +kernel
theorem dX8_findPanes_62 : decode cX8_findPanes 62 = .ok (.aload_n 0, 1) := by decide +kernel
theorem dX8_findPanes_63 : decode cX8_findPanes 63 = .ok (.getfield 31, 3) := by decide +kernel
theorem dX8_findPanes_66 : decode cX8_findPanes 66 = .ok (.aload_n 0, 1) := by decide +kernel
theorem dX8_findPanes_67 : decode cX8_findPanes 67 = .ok (.getfield 92, 3) := by decide +kernel
theorem dX8_findPanes_70 : decode cX8_findPanes 70 = .ok (.aload_n 0, 1) := by decide +kernel
theorem dX8_findPanes_71 : decode cX8_findPanes 71 = .ok (.aload_n 0, 1) := by decide +kernel
theorem dX8_findPanes_72 : decode cX8_findPanes 72 = .ok (.getfield 25, 3) := by decide +kernel
theorem dX8_findPanes_75 : decode cX8_findPanes 75 = .ok (.iload_n 1, 1) := by decide +kernel
theorem dX8_findPanes_76 : decode cX8_findPanes 76 = .ok (.aload_n 0, 1) := by decide +kernel
theorem dX8_findPanes_77 : decode cX8_findPanes 77 = .ok (.getfield 92, 3) := by decide +kernel
theorem dX8_findPanes_80 : decode cX8_findPanes 80 = .ok (.invokevirtual 134, 3) := by decide +kernel
theorem dX8_findPanes_83 : decode cX8_findPanes 83 = .ok (.iastore, 1) := by decide +kernel
theorem dX8_findPanes_84 : decode cX8_findPanes 84 = .ok (.aload_n 0, 1) := by decide +kernel
theorem dX8_findPanes_85 : decode cX8_findPanes 85 = .ok (.dup, 1) := by decide +kernel
theorem dX8_findPanes_86 : decode cX8_findPanes 86 = .ok (.getfield 92, 3) := by decide +kernel
theorem dX8_findPanes_89 : decode cX8_findPanes 89 = .ok (.iconst 1, 1) := by decide +kernel
theorem dX8_findPanes_90 : decode cX8_findPanes 90 = .ok (.iadd, 1) := by decide +kernel
theorem dX8_findPanes_91 : decode cX8_findPanes 91 = .ok (.putfield 92, 3) := by decide +kernel
theorem dX8_findPanes_94 : decode cX8_findPanes 94 = .ok (.iinc 1 1, 3) := by decide +kernel
theorem dX8_findPanes_97 : decode cX8_findPanes 97 = .ok (.goto (-65), 3) := by decide +kernel
theorem dX8_findPanes_100 : decode cX8_findPanes 100 = .ok (.return_, 1) := by decide +kernel
theorem dX8_isPane_0 : decode cX8_isPane 0 = .ok (.aload_n 0, 1) := by decide +kernel
theorem dX8_isPane_1 : decode cX8_isPane 1 = .ok (.invokevirtual 89, 3) := by decide +kernel
theorem dX8_isPane_4 : decode cX8_isPane 4 = .ok (.iload_n 1, 1) := by decide +kernel
theorem dX8_isPane_5 : decode cX8_isPane 5 = .ok (.iconst 0, 1) := by decide +kernel
theorem dX8_isPane_6 : decode cX8_isPane 6 = .ok (.aload_n 0, 1) := by decide +kernel
theorem dX8_isPane_7 : decode cX8_isPane 7 = .ok (.getfield 92, 3) := by decide +kernel
theorem dX8_isPane_10 : decode cX8_isPane 10 = .ok (.iconst 1, 1) := by decide +kernel
theorem dX8_isPane_11 : decode cX8_isPane 11 = .ok (.isub, 1) := by decide +kernel
theorem dX8_isPane_12 : decode cX8_isPane 12 = .ok (.invokestatic 65, 3) := by decide +kernel
theorem dX8_isPane_15 : decode cX8_isPane 15 = .ok (.ireturn, 1) := by decide +kernel
theorem dX8_corners_0 : decode cX8_corners 0 = .ok (.iconst 0, 1) := by decide +kernel
theorem dX8_corners_1 : decode cX8_corners 1 = .ok (.istore_n 3, 1) := by decide +kernel
theorem dX8_corners_2 : decode cX8_corners 2 = .ok (.iconst 0, 1) := by decide +kernel
theorem dX8_corners_3 : decode cX8_corners 3 = .ok (.istore 4, 2) := by decide +kernel
theorem dX8_corners_5 : decode cX8_corners 5 = .ok (.iload 4, 2) := by decide +kernel
theorem dX8_corners_7 : decode cX8_corners 7 = .ok (.iconst 1, 1) := by decide +kernel
theorem dX8_corners_8 : decode cX8_corners 8 = .ok (.iadd, 1) := by decide +kernel
theorem dX8_corners_9 : decode cX8_corners 9 = .ok (.aload_n 0, 1) := by decide +kernel
theorem dX8_corners_10 : decode cX8_corners 10 = .ok (.getfield 7, 3) := by decide +kernel
theorem dX8_corners_13 : decode cX8_corners 13 = .ok (.iconst 0, 1) := by decide +kernel
theorem dX8_corners_14 : decode cX8_corners 14 = .ok (.iaload, 1) := by decide +kernel
theorem dX8_corners_15 : decode cX8_corners 15 = .ok (.if_icmp .ge 122, 3) := by decide +kernel
theorem dX8_corners_18 : decode cX8_corners 18 = .ok (.iconst 0, 1) := by decide +kernel
theorem dX8_corners_19 : decode cX8_corners 19 = .ok (.istore 5, 2) := by decide +kernel
theorem dX8_corners_21 : decode cX8_corners 21 = .ok (.iload 5, 2) := by decide +kernel
theorem dX8_corners_23 : decode cX8_corners 23 = .ok (.iconst 1, 1) := by decide +kernel
theorem dX8_corners_24 : decode cX8_corners 24 = .ok (.iadd, 1) := by decide +kernel
theorem dX8_corners_25 : decode cX8_corners 25 = .ok (.aload_n 0, 1) := by decide +kernel
theorem dX8_corners_26 : decode cX8_corners 26 = .ok (.getfield 7, 3) := by decide +kernel
theorem dX8_corners_29 : decode cX8_corners 29 = .ok (.iconst 1, 1) := by decide +kernel
theorem dX8_corners_30 : decode cX8_corners 30 = .ok (.iaload, 1) := by decide +kernel
theorem dX8_corners_31 : decode cX8_corners 31 = .ok (.if_icmp .ge 100, 3) := by decide +kernel
theorem dX8_corners_34 : decode cX8_corners 34 = .ok (.bipush 7, 2) := by decide +kernel
theorem dX8_corners_36 : decode cX8_corners 36 = .ok (.iload 4, 2) := by decide +kernel
theorem dX8_corners_38 : decode cX8_corners 38 = .ok (.imul, 1) := by decide +kernel
theorem dX8_corners_39 : decode cX8_corners 39 = .ok (.iload 5, 2) := by decide +kernel
theorem dX8_corners_41 : decode cX8_corners 41 = .ok (.iadd, 1) := by decide +kernel
theorem dX8_corners_42 : decode cX8_corners 42 = .ok (.istore 6, 2) := by decide +kernel
theorem dX8_corners_44 : decode cX8_corners 44 = .ok (.aload_n 1, 1) := by decide +kernel
theorem dX8_corners_45 : decode cX8_corners 45 = .ok (.iload 6, 2) := by decide +kernel
theorem dX8_corners_47 : decode cX8_corners 47 = .ok (.iaload, 1) := by decide +kernel
theorem dX8_corners_48 : decode cX8_corners 48 = .ok (.iload_n 2, 1) := by decide +kernel
theorem dX8_corners_49 : decode cX8_corners 49 = .ok (.if_icmp .ne 7, 3) := by decide +kernel
theorem dX8_corners_52 : decode cX8_corners 52 = .ok (.iconst 1, 1) := by decide +kernel
theorem dX8_corners_53 : decode cX8_corners 53 = .ok (.goto 4, 3) := by decide +kernel
theorem dX8_corners_56 : decode cX8_corners 56 = .ok (.iconst 0, 1) := by decide +kernel
theorem dX8_corners_57 : decode cX8_corners 57 = .ok (.aload_n 1, 1) := by decide +kernel
theorem dX8_corners_58 : decode cX8_corners 58 = .ok (.iload 6, 2) := by decide +kernel
theorem dX8_corners_60 : decode cX8_corners 60 = .ok (.iconst 1, 1) := by decide +kernel
theorem dX8_corners_61 : decode cX8_corners 61 = .ok (.iadd, 1) := by decide +kernel
theorem dX8_corners_62 : decode cX8_corners 62 = .ok (.iaload, 1) := by decide +kernel
theorem dX8_corners_63 : decode cX8_corners 63 = .ok (.iload_n 2, 1) := by decide +kernel
theorem dX8_corners_64 : decode cX8_corners 64 = .ok (.if_icmp .ne 7, 3) := by decide +kernel
theorem dX8_corners_67 : decode cX8_corners 67 = .ok (.iconst 1, 1) := by decide +kernel
theorem dX8_corners_68 : decode cX8_corners 68 = .ok (.goto 4, 3) := by decide +kernel
theorem dX8_corners_71 : decode cX8_corners 71 = .ok (.iconst 0, 1) := by decide +kernel
theorem dX8_corners_72 : decode cX8_corners 72 = .ok (.iadd, 1) := by decide +kernel
theorem dX8_corners_73 : decode cX8_corners 73 = .ok (.aload_n 1, 1) := by decide +kernel
theorem dX8_corners_74 : decode cX8_corners 74 = .ok (.iload 6, 2) := by decide +kernel
theorem dX8_corners_76 : decode cX8_corners 76 = .ok (.bipush 7, 2) := by decide +kernel
theorem dX8_corners_78 : decode cX8_corners 78 = .ok (.iadd, 1) := by decide +kernel
theorem dX8_corners_79 : decode cX8_corners 79 = .ok (.iaload, 1) := by decide +kernel
theorem dX8_corners_80 : decode cX8_corners 80 = .ok (.iload_n 2, 1) := by decide +kernel
theorem dX8_corners_81 : decode cX8_corners 81 = .ok (.if_icmp .ne 7, 3) := by decide +kernel
theorem dX8_corners_84 : decode cX8_corners 84 = .ok (.iconst 1, 1) := by decide +kernel
theorem dX8_corners_85 : decode cX8_corners 85 = .ok (.goto 4, 3) := by decide +kernel
theorem dX8_corners_88 : decode cX8_corners 88 = .ok (.iconst 0, 1) := by decide +kernel
theorem dX8_corners_89 : decode cX8_corners 89 = .ok (.iadd, 1) := by decide +kernel
theorem dX8_corners_90 : decode cX8_corners 90 = .ok (.aload_n 1, 1) := by decide +kernel
theorem dX8_corners_91 : decode cX8_corners 91 = .ok (.iload 6, 2) := by decide +kernel
theorem dX8_corners_93 : decode cX8_corners 93 = .ok (.bipush 7, 2) := by decide +kernel
theorem dX8_corners_95 : decode cX8_corners 95 = .ok (.iadd, 1) := by decide +kernel
theorem dX8_corners_96 : decode cX8_corners 96 = .ok (.iconst 1, 1) := by decide +kernel
theorem dX8_corners_97 : decode cX8_corners 97 = .ok (.iadd, 1) := by decide +kernel
theorem dX8_corners_98 : decode cX8_corners 98 = .ok (.iaload, 1) := by decide +kernel
theorem dX8_corners_99 : decode cX8_corners 99 = .ok (.iload_n 2, 1) := by decide +kernel
theorem dX8_corners_100 : decode cX8_corners 100 = .ok (.if_icmp .ne 7, 3) := by decide +kernel
theorem dX8_corners_103 : decode cX8_corners 103 = .ok (.iconst 1, 1) := by decide +kernel
theorem dX8_corners_104 : decode cX8_corners 104 = .ok (.goto 4, 3) := by decide +kernel
theorem dX8_corners_107 : decode cX8_corners 107 = .ok (.iconst 0, 1) := by decide +kernel
theorem dX8_corners_108 : decode cX8_corners 108 = .ok (.iadd, 1) := by decide +kernel
theorem dX8_corners_109 : decode cX8_corners 109 = .ok (.istore 7, 2) := by decide +kernel
theorem dX8_corners_111 : decode cX8_corners 111 = .ok (.iload_n 3, 1) := by decide +kernel
theorem dX8_corners_112 : decode cX8_corners 112 = .ok (.iload 7, 2) := by decide +kernel
theorem dX8_corners_114 : decode cX8_corners 114 = .ok (.iconst 3, 1) := by decide +kernel
theorem dX8_corners_115 : decode cX8_corners 115 = .ok (.if_icmp .ne 7, 3) := by decide +kernel
theorem dX8_corners_118 : decode cX8_corners 118 = .ok (.iconst 1, 1) := by decide +kernel
theorem dX8_corners_119 : decode cX8_corners 119 = .ok (.goto 4, 3) := by decide +kernel
theorem dX8_corners_122 : decode cX8_corners 122 = .ok (.iconst 0, 1) := by decide +kernel
theorem dX8_corners_123 : decode cX8_corners 123 = .ok (.iadd, 1) := by decide +kernel
theorem dX8_corners_124 : decode cX8_corners 124 = .ok (.istore_n 3, 1) := by decide +kernel
theorem dX8_corners_125 : decode cX8_corners 125 = .ok (.iinc 5 1, 3) := by decide +kernel
theorem dX8_corners_128 : decode cX8_corners 128 = .ok (.goto (-107), 3) := by decide +kernel
theorem dX8_corners_131 : decode cX8_corners 131 = .ok (.iinc 4 1, 3) := by decide +kernel
theorem dX8_corners_134 : decode cX8_corners 134 = .ok (.goto (-129), 3) := by decide +kernel
theorem dX8_corners_137 : decode cX8_corners 137 = .ok (.iload_n 3, 1) := by decide +kernel
theorem dX8_corners_138 : decode cX8_corners 138 = .ok (.ireturn, 1) := by decide +kernel
theorem dX8_isEdge_0 : decode cX8_isEdge 0 = .ok (.iload_n 1, 1) := by decide +kernel
theorem dX8_isEdge_1 : decode cX8_isEdge 1 = .ok (.bipush 7, 2) := by decide +kernel
theorem dX8_isEdge_3 : decode cX8_isEdge 3 = .ok (.idiv, 1) := by decide +kernel
theorem dX8_isEdge_4 : decode cX8_isEdge 4 = .ok (.istore_n 2, 1) := by decide +kernel
theorem dX8_isEdge_5 : decode cX8_isEdge 5 = .ok (.iload_n 1, 1) := by decide +kernel
theorem dX8_isEdge_6 : decode cX8_isEdge 6 = .ok (.bipush 7, 2) := by decide +kernel
theorem dX8_isEdge_8 : decode cX8_isEdge 8 = .ok (.irem, 1) := by decide +kernel
theorem dX8_isEdge_9 : decode cX8_isEdge 9 = .ok (.istore_n 3, 1) := by decide +kernel
theorem dX8_isEdge_10 : decode cX8_isEdge 10 = .ok (.iload_n 2, 1) := by decide +kernel
theorem dX8_isEdge_11 : decode cX8_isEdge 11 = .ok (.ifCond .eq 31, 3) := by decide +kernel
theorem dX8_isEdge_14 : decode cX8_isEdge 14 = .ok (.iload_n 3, 1) := by decide +kernel
theorem dX8_isEdge_15 : decode cX8_isEdge 15 = .ok (.ifCond .eq 27, 3) := by decide +kernel
theorem dX8_isEdge_18 : decode cX8_isEdge 18 = .ok (.iload_n 2, 1) := by decide +kernel
theorem dX8_isEdge_19 : decode cX8_isEdge 19 = .ok (.aload_n 0, 1) := by decide +kernel
theorem dX8_isEdge_20 : decode cX8_isEdge 20 = .ok (.getfield 7, 3) := by decide +kernel
theorem dX8_isEdge_23 : decode cX8_isEdge 23 = .ok (.iconst 0, 1) := by decide +kernel
theorem dX8_isEdge_24 : decode cX8_isEdge 24 = .ok (.iaload, 1) := by decide +kernel
theorem dX8_isEdge_25 : decode cX8_isEdge 25 = .ok (.iconst 1, 1) := by decide +kernel
theorem dX8_isEdge_26 : decode cX8_isEdge 26 = .ok (.isub, 1) := by decide +kernel
theorem dX8_isEdge_27 : decode cX8_isEdge 27 = .ok (.if_icmp .eq 15, 3) := by decide +kernel
theorem dX8_isEdge_30 : decode cX8_isEdge 30 = .ok (.iload_n 3, 1) := by decide +kernel
theorem dX8_isEdge_31 : decode cX8_isEdge 31 = .ok (.aload_n 0, 1) := by decide +kernel
theorem dX8_isEdge_32 : decode cX8_isEdge 32 = .ok (.getfield 7, 3) := by decide +kernel
theorem dX8_isEdge_35 : decode cX8_isEdge 35 = .ok (.iconst 1, 1) := by decide +kernel
theorem dX8_isEdge_36 : decode cX8_isEdge 36 = .ok (.iaload, 1) := by decide +kernel
theorem dX8_isEdge_37 : decode cX8_isEdge 37 = .ok (.iconst 1, 1) := by decide +kernel
theorem dX8_isEdge_38 : decode cX8_isEdge 38 = .ok (.isub, 1) := by decide +kernel
theorem dX8_isEdge_39 : decode cX8_isEdge 39 = .ok (.if_icmp .ne 7, 3) := by decide +kernel
theorem dX8_isEdge_42 : decode cX8_isEdge 42 = .ok (.iconst 1, 1) := by decide +kernel
theorem dX8_isEdge_43 : decode cX8_isEdge 43 = .ok (.goto 4, 3) := by decide +kernel
theorem dX8_isEdge_46 : decode cX8_isEdge 46 = .ok (.iconst 0, 1) := by decide +kernel
theorem dX8_isEdge_47 : decode cX8_isEdge 47 = .ok (.ireturn, 1) := by decide +kernel
theorem dX8_isHole_0 : decode cX8_isHole 0 = .ok (.iconst 1, 1) := by decide +kernel
theorem dX8_isHole_1 : decode cX8_isHole 1 = .ok (.istore 4, 2) := by decide +kernel
theorem dX8_isHole_3 : decode cX8_isHole 3 = .ok (.aload_n 0, 1) := by decide +kernel
theorem dX8_isHole_4 : decode cX8_isHole 4 = .ok (.getfield 34, 3) := by decide +kernel
theorem dX8_isHole_7 : decode cX8_isHole 7 = .ok (.iload_n 3, 1) := by decide +kernel
theorem dX8_isHole_8 : decode cX8_isHole 8 = .ok (.iconst 1, 1) := by decide +kernel
theorem dX8_isHole_9 : decode cX8_isHole 9 = .ok (.bastore, 1) := by decide +kernel
theorem dX8_isHole_10 : decode cX8_isHole 10 = .ok (.aload_n 0, 1) := by decide +kernel
theorem dX8_isHole_11 : decode cX8_isHole 11 = .ok (.getfield 22, 3) := by decide +kernel
theorem dX8_isHole_14 : decode cX8_isHole 14 = .ok (.iconst 0, 1) := by decide +kernel
theorem dX8_isHole_15 : decode cX8_isHole 15 = .ok (.iload_n 3, 1) := by decide +kernel
theorem dX8_isHole_16 : decode cX8_isHole 16 = .ok (.iastore, 1) := by decide +kernel
theorem dX8_isHole_17 : decode cX8_isHole 17 = .ok (.iconst 1, 1) := by decide +kernel
theorem dX8_isHole_18 : decode cX8_isHole 18 = .ok (.istore 5, 2) := by decide +kernel
theorem dX8_isHole_20 : decode cX8_isHole 20 = .ok (.iconst 0, 1) := by decide +kernel
theorem dX8_isHole_21 : decode cX8_isHole 21 = .ok (.istore 6, 2) := by decide +kernel
theorem dX8_isHole_23 : decode cX8_isHole 23 = .ok (.iload 6, 2) := by decide +kernel
theorem dX8_isHole_25 : decode cX8_isHole 25 = .ok (.iload 5, 2) := by decide +kernel
theorem dX8_isHole_27 : decode cX8_isHole 27 = .ok (.if_icmp .ge 162, 3) := by decide +kernel
theorem dX8_isHole_30 : decode cX8_isHole 30 = .ok (.aload_n 0, 1) := by decide +kernel
theorem dX8_isHole_31 : decode cX8_isHole 31 = .ok (.getfield 22, 3) := by decide +kernel
theorem dX8_isHole_34 : decode cX8_isHole 34 = .ok (.iload 6, 2) := by decide +kernel
theorem dX8_isHole_36 : decode cX8_isHole 36 = .ok (.iaload, 1) := by decide +kernel
theorem dX8_isHole_37 : decode cX8_isHole 37 = .ok (.bipush 7, 2) := by decide +kernel
theorem dX8_isHole_39 : decode cX8_isHole 39 = .ok (.idiv, 1) := by decide +kernel
theorem dX8_isHole_40 : decode cX8_isHole 40 = .ok (.istore 7, 2) := by decide +kernel
theorem dX8_isHole_42 : decode cX8_isHole 42 = .ok (.aload_n 0, 1) := by decide +kernel
theorem dX8_isHole_43 : decode cX8_isHole 43 = .ok (.getfield 22, 3) := by decide +kernel
theorem dX8_isHole_46 : decode cX8_isHole 46 = .ok (.iload 6, 2) := by decide +kernel
theorem dX8_isHole_48 : decode cX8_isHole 48 = .ok (.iaload, 1) := by decide +kernel
theorem dX8_isHole_49 : decode cX8_isHole 49 = .ok (.bipush 7, 2) := by decide +kernel
theorem dX8_isHole_51 : decode cX8_isHole 51 = .ok (.irem, 1) := by decide +kernel
theorem dX8_isHole_52 : decode cX8_isHole 52 = .ok (.istore 8, 2) := by decide +kernel
theorem dX8_isHole_54 : decode cX8_isHole 54 = .ok (.iload 4, 2) := by decide +kernel
theorem dX8_isHole_56 : decode cX8_isHole 56 = .ok (.ifCond .eq 21, 3) := by decide +kernel
theorem dX8_isHole_59 : decode cX8_isHole 59 = .ok (.aload_n 0, 1) := by decide +kernel
theorem dX8_isHole_60 : decode cX8_isHole 60 = .ok (.aload_n 0, 1) := by decide +kernel
theorem dX8_isHole_61 : decode cX8_isHole 61 = .ok (.getfield 22, 3) := by decide +kernel
theorem dX8_isHole_64 : decode cX8_isHole 64 = .ok (.iload 6, 2) := by decide +kernel
theorem dX8_isHole_66 : decode cX8_isHole 66 = .ok (.iaload, 1) := by decide +kernel
theorem dX8_isHole_67 : decode cX8_isHole 67 = .ok (.invokevirtual 138, 3) := by decide +kernel
theorem dX8_isHole_70 : decode cX8_isHole 70 = .ok (.ifCond .ne 7, 3) := by decide +kernel
theorem dX8_isHole_73 : decode cX8_isHole 73 = .ok (.iconst 1, 1) := by decide +kernel
theorem dX8_isHole_74 : decode cX8_isHole 74 = .ok (.goto 4, 3) := by decide +kernel
theorem dX8_isHole_77 : decode cX8_isHole 77 = .ok (.iconst 0, 1) := by decide +kernel
theorem dX8_isHole_78 : decode cX8_isHole 78 = .ok (.istore 4, 2) := by decide +kernel
theorem dX8_isHole_80 : decode cX8_isHole 80 = .ok (.iconst 0, 1) := by decide +kernel
theorem dX8_isHole_81 : decode cX8_isHole 81 = .ok (.istore 9, 2) := by decide +kernel
theorem dX8_isHole_83 : decode cX8_isHole 83 = .ok (.iload 9, 2) := by decide +kernel
theorem dX8_isHole_85 : decode cX8_isHole 85 = .ok (.bipush 9, 2) := by decide +kernel
theorem dX8_isHole_87 : decode cX8_isHole 87 = .ok (.if_icmp .ge 96, 3) := by decide +kernel
theorem dX8_isHole_90 : decode cX8_isHole 90 = .ok (.bipush 7, 2) := by decide +kernel
theorem dX8_isHole_92 : decode cX8_isHole 92 = .ok (.iload 7, 2) := by decide +kernel
theorem dX8_isHole_94 : decode cX8_isHole 94 = .ok (.iload 9, 2) := by decide +kernel
theorem dX8_isHole_96 : decode cX8_isHole 96 = .ok (.iconst 3, 1) := by decide +kernel
theorem dX8_isHole_97 : decode cX8_isHole 97 = .ok (.idiv, 1) := by decide +kernel
theorem dX8_isHole_98 : decode cX8_isHole 98 = .ok (.iadd, 1) := by decide +kernel
theorem dX8_isHole_99 : decode cX8_isHole 99 = .ok (.iconst 1, 1) := by decide +kernel
theorem dX8_isHole_100 : decode cX8_isHole 100 = .ok (.isub, 1) := by decide +kernel
theorem dX8_isHole_101 : decode cX8_isHole 101 = .ok (.imul, 1) := by decide +kernel
theorem dX8_isHole_102 : decode cX8_isHole 102 = .ok (.iload 8, 2) := by decide +kernel
theorem dX8_isHole_104 : decode cX8_isHole 104 = .ok (.iadd, 1) := by decide +kernel
theorem dX8_isHole_105 : decode cX8_isHole 105 = .ok (.iload 9, 2) := by decide +kernel
theorem dX8_isHole_107 : decode cX8_isHole 107 = .ok (.iconst 3, 1) := by decide +kernel
theorem dX8_isHole_108 : decode cX8_isHole 108 = .ok (.irem, 1) := by decide +kernel
theorem dX8_isHole_109 : decode cX8_isHole 109 = .ok (.iadd, 1) := by decide +kernel
theorem dX8_isHole_110 : decode cX8_isHole 110 = .ok (.iconst 1, 1) := by decide +kernel
theorem dX8_isHole_111 : decode cX8_isHole 111 = .ok (.isub, 1) := by decide +kernel
theorem dX8_isHole_112 : decode cX8_isHole 112 = .ok (.istore 10, 2) := by decide +kernel
theorem dX8_isHole_114 : decode cX8_isHole 114 = .ok (.aload_n 0, 1) := by decide +kernel
theorem dX8_isHole_115 : decode cX8_isHole 115 = .ok (.iload 7, 2) := by decide +kernel
theorem dX8_isHole_117 : decode cX8_isHole 117 = .ok (.iload 9, 2) := by decide +kernel
theorem dX8_isHole_119 : decode cX8_isHole 119 = .ok (.iconst 3, 1) := by decide +kernel
theorem dX8_isHole_120 : decode cX8_isHole 120 = .ok (.idiv, 1) := by decide +kernel
theorem dX8_isHole_121 : decode cX8_isHole 121 = .ok (.iadd, 1) := by decide +kernel
theorem dX8_isHole_122 : decode cX8_isHole 122 = .ok (.iconst 1, 1) := by decide +kernel
theorem dX8_isHole_123 : decode cX8_isHole 123 = .ok (.isub, 1) := by decide +kernel
theorem dX8_isHole_124 : decode cX8_isHole 124 = .ok (.iload 8, 2) := by decide +kernel
theorem dX8_isHole_126 : decode cX8_isHole 126 = .ok (.iload 9, 2) := by decide +kernel
theorem dX8_isHole_128 : decode cX8_isHole 128 = .ok (.iconst 3, 1) := by decide +kernel
theorem dX8_isHole_129 : decode cX8_isHole 129 = .ok (.irem, 1) := by decide +kernel
theorem dX8_isHole_130 : decode cX8_isHole 130 = .ok (.iadd, 1) := by decide +kernel
theorem dX8_isHole_131 : decode cX8_isHole 131 = .ok (.iconst 1, 1) := by decide +kernel
theorem dX8_isHole_132 : decode cX8_isHole 132 = .ok (.isub, 1) := by decide +kernel
theorem dX8_isHole_133 : decode cX8_isHole 133 = .ok (.invokevirtual 95, 3) := by decide +kernel
theorem dX8_isHole_136 : decode cX8_isHole 136 = .ok (.ifCond .eq 41, 3) := by decide +kernel
theorem dX8_isHole_139 : decode cX8_isHole 139 = .ok (.aload_n 1, 1) := by decide +kernel
theorem dX8_isHole_140 : decode cX8_isHole 140 = .ok (.iload 10, 2) := by decide +kernel
theorem dX8_isHole_142 : decode cX8_isHole 142 = .ok (.iaload, 1) := by decide +kernel
theorem dX8_isHole_143 : decode cX8_isHole 143 = .ok (.iload_n 2, 1) := by decide +kernel
theorem dX8_isHole_144 : decode cX8_isHole 144 = .ok (.if_icmp .eq 33, 3) := by decide +kernel
theorem dX8_isHole_147 : decode cX8_isHole 147 = .ok (.aload_n 0, 1) := by decide +kernel
theorem dX8_isHole_148 : decode cX8_isHole 148 = .ok (.getfield 34, 3) := by decide +kernel
theorem dX8_isHole_151 : decode cX8_isHole 151 = .ok (.iload 10, 2) := by decide +kernel
theorem dX8_isHole_153 : decode cX8_isHole 153 = .ok (.baload, 1) := by decide +kernel
theorem dX8_isHole_154 : decode cX8_isHole 154 = .ok (.ifCond .ne 23, 3) := by decide +kernel
theorem dX8_isHole_157 : decode cX8_isHole 157 = .ok (.aload_n 0, 1) := by decide +kernel
theorem dX8_isHole_158 : decode cX8_isHole 158 = .ok (.getfield 34, 3) := by decide +kernel
theorem dX8_isHole_161 : decode cX8_isHole 161 = .ok (.iload 10, 2) := by decide +kernel
theorem dX8_isHole_163 : decode cX8_isHole 163 = .ok (.iconst 1, 1) := by decide +kernel
theorem dX8_isHole_164 : decode cX8_isHole 164 = .ok (.bastore, 1) := by decide +kernel
theorem dX8_isHole_165 : decode cX8_isHole 165 = .ok (.aload_n 0, 1) := by decide +kernel
theorem dX8_isHole_166 : decode cX8_isHole 166 = .ok (.getfield 22, 3) := by decide +kernel
theorem dX8_isHole_169 : decode cX8_isHole 169 = .ok (.iload 5, 2) := by decide +kernel
theorem dX8_isHole_171 : decode cX8_isHole 171 = .ok (.iload 10, 2) := by decide +kernel
theorem dX8_isHole_173 : decode cX8_isHole 173 = .ok (.iastore, 1) := by decide +kernel
theorem dX8_isHole_174 : decode cX8_isHole 174 = .ok (.iinc 5 1, 3) := by decide +kernel
theorem dX8_isHole_177 : decode cX8_isHole 177 = .ok (.iinc 9 1, 3) := by decide +kernel
theorem dX8_isHole_180 : decode cX8_isHole 180 = .ok (.goto (-97), 3) := by decide +kernel
theorem dX8_isHole_183 : decode cX8_isHole 183 = .ok (.iinc 6 1, 3) := by decide +kernel
theorem dX8_isHole_186 : decode cX8_isHole 186 = .ok (.goto (-163), 3) := by decide +kernel
theorem dX8_isHole_189 : decode cX8_isHole 189 = .ok (.iload 4, 2) := by decide +kernel
theorem dX8_isHole_191 : decode cX8_isHole 191 = .ok (.ireturn, 1) := by decide +kernel
theorem dX8_holesOf_0 : decode cX8_holesOf 0 = .ok (.iconst 0, 1) := by decide +kernel
theorem dX8_holesOf_1 : decode cX8_holesOf 1 = .ok (.istore_n 3, 1) := by decide +kernel
theorem dX8_holesOf_2 : decode cX8_holesOf 2 = .ok (.iload_n 3, 1) := by decide +kernel
theorem dX8_holesOf_3 : decode cX8_holesOf 3 = .ok (.bipush 49, 2) := by decide +kernel
theorem dX8_holesOf_5 : decode cX8_holesOf 5 = .ok (.if_icmp .ge 16, 3) := by decide +kernel
theorem dX8_holesOf_8 : decode cX8_holesOf 8 = .ok (.aload_n 0, 1) := by decide +kernel
theorem dX8_holesOf_9 : decode cX8_holesOf 9 = .ok (.getfield 34, 3) := by decide +kernel
theorem dX8_holesOf_12 : decode cX8_holesOf 12 = .ok (.iload_n 3, 1) := by decide +kernel
theorem dX8_holesOf_13 : decode cX8_holesOf 13 = .ok (.iconst 0, 1) := by decide +kernel
theorem dX8_holesOf_14 : decode cX8_holesOf 14 = .ok (.bastore, 1) := by decide +kernel
theorem dX8_holesOf_15 : decode cX8_holesOf 15 = .ok (.iinc 3 1, 3) := by decide +kernel
theorem dX8_holesOf_18 : decode cX8_holesOf 18 = .ok (.goto (-16), 3) := by decide +kernel
theorem dX8_holesOf_21 : decode cX8_holesOf 21 = .ok (.iconst 0, 1) := by decide +kernel
theorem dX8_holesOf_22 : decode cX8_holesOf 22 = .ok (.istore_n 3, 1) := by decide +kernel
theorem dX8_holesOf_23 : decode cX8_holesOf 23 = .ok (.iconst 0, 1) := by decide +kernel
theorem dX8_holesOf_24 : decode cX8_holesOf 24 = .ok (.istore 4, 2) := by decide +kernel
theorem dX8_holesOf_26 : decode cX8_holesOf 26 = .ok (.iload 4, 2) := by decide +kernel
theorem dX8_holesOf_28 : decode cX8_holesOf 28 = .ok (.bipush 49, 2) := by decide +kernel
theorem dX8_holesOf_30 : decode cX8_holesOf 30 = .ok (.if_icmp .ge 63, 3) := by decide +kernel
theorem dX8_holesOf_33 : decode cX8_holesOf 33 = .ok (.aload_n 0, 1) := by decide +kernel
theorem dX8_holesOf_34 : decode cX8_holesOf 34 = .ok (.iload 4, 2) := by decide +kernel
theorem dX8_holesOf_36 : decode cX8_holesOf 36 = .ok (.bipush 7, 2) := by decide +kernel
theorem dX8_holesOf_38 : decode cX8_holesOf 38 = .ok (.idiv, 1) := by decide +kernel
theorem dX8_holesOf_39 : decode cX8_holesOf 39 = .ok (.iload 4, 2) := by decide +kernel
theorem dX8_holesOf_41 : decode cX8_holesOf 41 = .ok (.bipush 7, 2) := by decide +kernel
theorem dX8_holesOf_43 : decode cX8_holesOf 43 = .ok (.irem, 1) := by decide +kernel
theorem dX8_holesOf_44 : decode cX8_holesOf 44 = .ok (.invokevirtual 95, 3) := by decide +kernel
theorem dX8_holesOf_47 : decode cX8_holesOf 47 = .ok (.ifCond .eq 40, 3) := by decide +kernel
theorem dX8_holesOf_50 : decode cX8_holesOf 50 = .ok (.aload_n 1, 1) := by decide +kernel
theorem dX8_holesOf_51 : decode cX8_holesOf 51 = .ok (.iload 4, 2) := by decide +kernel
theorem dX8_holesOf_53 : decode cX8_holesOf 53 = .ok (.iaload, 1) := by decide +kernel
theorem dX8_holesOf_54 : decode cX8_holesOf 54 = .ok (.iload_n 2, 1) := by decide +kernel
theorem dX8_holesOf_55 : decode cX8_holesOf 55 = .ok (.if_icmp .eq 32, 3) := by decide +kernel
theorem dX8_holesOf_58 : decode cX8_holesOf 58 = .ok (.aload_n 0, 1) := by decide +kernel
theorem dX8_holesOf_59 : decode cX8_holesOf 59 = .ok (.getfield 34, 3) := by decide +kernel
theorem dX8_holesOf_62 : decode cX8_holesOf 62 = .ok (.iload 4, 2) := by decide +kernel
theorem dX8_holesOf_64 : decode cX8_holesOf 64 = .ok (.baload, 1) := by decide +kernel
theorem dX8_holesOf_65 : decode cX8_holesOf 65 = .ok (.ifCond .ne 22, 3) := by decide +kernel
theorem dX8_holesOf_68 : decode cX8_holesOf 68 = .ok (.iload_n 3, 1) := by decide +kernel
theorem dX8_holesOf_69 : decode cX8_holesOf 69 = .ok (.aload_n 0, 1) := by decide +kernel
theorem dX8_holesOf_70 : decode cX8_holesOf 70 = .ok (.aload_n 1, 1) := by decide +kernel
theorem dX8_holesOf_71 : decode cX8_holesOf 71 = .ok (.iload_n 2, 1) := by decide +kernel
theorem dX8_holesOf_72 : decode cX8_holesOf 72 = .ok (.iload 4, 2) := by decide +kernel
theorem dX8_holesOf_74 : decode cX8_holesOf 74 = .ok (.invokevirtual 142, 3) := by decide +kernel
theorem dX8_holesOf_77 : decode cX8_holesOf 77 = .ok (.ifCond .eq 7, 3) := by decide +kernel
theorem dX8_holesOf_80 : decode cX8_holesOf 80 = .ok (.iconst 1, 1) := by decide +kernel
theorem dX8_holesOf_81 : decode cX8_holesOf 81 = .ok (.goto 4, 3) := by decide +kernel
theorem dX8_holesOf_84 : decode cX8_holesOf 84 = .ok (.iconst 0, 1) := by decide +kernel
theorem dX8_holesOf_85 : decode cX8_holesOf 85 = .ok (.iadd, 1) := by decide +kernel
theorem dX8_holesOf_86 : decode cX8_holesOf 86 = .ok (.istore_n 3, 1) := by decide +kernel
theorem dX8_holesOf_87 : decode cX8_holesOf 87 = .ok (.iinc 4 1, 3) := by decide +kernel
theorem dX8_holesOf_90 : decode cX8_holesOf 90 = .ok (.goto (-64), 3) := by decide +kernel
theorem dX8_holesOf_93 : decode cX8_holesOf 93 = .ok (.iload_n 3, 1) := by decide +kernel
theorem dX8_holesOf_94 : decode cX8_holesOf 94 = .ok (.ireturn, 1) := by decide +kernel
theorem dX8_isEasy_0 : decode cX8_isEasy 0 = .ok (.iload_n 3, 1) := by decide +kernel
theorem dX8_isEasy_1 : decode cX8_isEasy 1 = .ok (.aload_n 0, 1) := by decide +kernel
theorem dX8_isEasy_2 : decode cX8_isEasy 2 = .ok (.getfield 7, 3) := by decide +kernel
theorem dX8_isEasy_5 : decode cX8_isEasy 5 = .ok (.iconst 2, 1) := by decide +kernel
theorem dX8_isEasy_6 : decode cX8_isEasy 6 = .ok (.iaload, 1) := by decide +kernel
theorem dX8_isEasy_7 : decode cX8_isEasy 7 = .ok (.if_icmp .gt 37, 3) := by decide +kernel
theorem dX8_isEasy_10 : decode cX8_isEasy 10 = .ok (.aload_n 0, 1) := by decide +kernel
theorem dX8_isEasy_11 : decode cX8_isEasy 11 = .ok (.aload_n 1, 1) := by decide +kernel
theorem dX8_isEasy_12 : decode cX8_isEasy 12 = .ok (.iload_n 2, 1) := by decide +kernel
theorem dX8_isEasy_13 : decode cX8_isEasy 13 = .ok (.invokevirtual 146, 3) := by decide +kernel
theorem dX8_isEasy_16 : decode cX8_isEasy 16 = .ok (.aload_n 0, 1) := by decide +kernel
theorem dX8_isEasy_17 : decode cX8_isEasy 17 = .ok (.getfield 7, 3) := by decide +kernel
theorem dX8_isEasy_20 : decode cX8_isEasy 20 = .ok (.iconst 3, 1) := by decide +kernel
theorem dX8_isEasy_21 : decode cX8_isEasy 21 = .ok (.iaload, 1) := by decide +kernel
theorem dX8_isEasy_22 : decode cX8_isEasy 22 = .ok (.if_icmp .gt 22, 3) := by decide +kernel
theorem dX8_isEasy_25 : decode cX8_isEasy 25 = .ok (.iload_n 3, 1) := by decide +kernel
theorem dX8_isEasy_26 : decode cX8_isEasy 26 = .ok (.bipush 8, 2) := by decide +kernel
theorem dX8_isEasy_28 : decode cX8_isEasy 28 = .ok (.if_icmp .lt 12, 3) := by decide +kernel
theorem dX8_isEasy_31 : decode cX8_isEasy 31 = .ok (.aload_n 0, 1) := by decide +kernel
theorem dX8_isEasy_32 : decode cX8_isEasy 32 = .ok (.aload_n 1, 1) := by decide +kernel
theorem dX8_isEasy_33 : decode cX8_isEasy 33 = .ok (.iload_n 2, 1) := by decide +kernel
theorem dX8_isEasy_34 : decode cX8_isEasy 34 = .ok (.invokevirtual 150, 3) := by decide +kernel
theorem dX8_isEasy_37 : decode cX8_isEasy 37 = .ok (.ifCond .ne 7, 3) := by decide +kernel
theorem dX8_isEasy_40 : decode cX8_isEasy 40 = .ok (.iconst 1, 1) := by decide +kernel
theorem dX8_isEasy_41 : decode cX8_isEasy 41 = .ok (.goto 4, 3) := by decide +kernel
theorem dX8_isEasy_44 : decode cX8_isEasy 44 = .ok (.iconst 0, 1) := by decide +kernel
theorem dX8_isEasy_45 : decode cX8_isEasy 45 = .ok (.ireturn, 1) := by decide +kernel
theorem dX8_canCut_0 : decode cX8_canCut 0 = .ok (.aload_n 0, 1) := by decide +kernel
theorem dX8_canCut_1 : decode cX8_canCut 1 = .ok (.aload_n 0, 1) := by decide +kernel
theorem dX8_canCut_2 : decode cX8_canCut 2 = .ok (.getfield 25, 3) := by decide +kernel
theorem dX8_canCut_5 : decode cX8_canCut 5 = .ok (.iload_n 1, 1) := by decide +kernel
theorem dX8_canCut_6 : decode cX8_canCut 6 = .ok (.aload_n 0, 1) := by decide +kernel
theorem dX8_canCut_7 : decode cX8_canCut 7 = .ok (.getfield 31, 3) := by decide +kernel
theorem dX8_canCut_10 : decode cX8_canCut 10 = .ok (.iload_n 1, 1) := by decide +kernel
theorem dX8_canCut_11 : decode cX8_canCut 11 = .ok (.iaload, 1) := by decide +kernel
theorem dX8_canCut_12 : decode cX8_canCut 12 = .ok (.invokevirtual 153, 3) := by decide +kernel
theorem dX8_canCut_15 : decode cX8_canCut 15 = .ok (.ireturn, 1) := by decide +kernel
theorem dX8_paneCount_0 : decode cX8_paneCount 0 = .ok (.aload_n 0, 1) := by decide +kernel
theorem dX8_paneCount_1 : decode cX8_paneCount 1 = .ok (.invokevirtual 89, 3) := by decide +kernel
theorem dX8_paneCount_4 : decode cX8_paneCount 4 = .ok (.aload_n 0, 1) := by decide +kernel
theorem dX8_paneCount_5 : decode cX8_paneCount 5 = .ok (.getfield 92, 3) := by decide +kernel
theorem dX8_paneCount_8 : decode cX8_paneCount 8 = .ok (.ireturn, 1) := by decide +kernel
theorem dX8_paneAt_0 : decode cX8_paneAt 0 = .ok (.aload_n 0, 1) := by decide +kernel
theorem dX8_paneAt_1 : decode cX8_paneAt 1 = .ok (.invokevirtual 89, 3) := by decide +kernel
theorem dX8_paneAt_4 : decode cX8_paneAt 4 = .ok (.aload_n 0, 1) := by decide +kernel
theorem dX8_paneAt_5 : decode cX8_paneAt 5 = .ok (.iload_n 1, 1) := by decide +kernel
theorem dX8_paneAt_6 : decode cX8_paneAt 6 = .ok (.iload_n 2, 1) := by decide +kernel
theorem dX8_paneAt_7 : decode cX8_paneAt 7 = .ok (.invokevirtual 95, 3) := by decide +kernel
theorem dX8_paneAt_10 : decode cX8_paneAt 10 = .ok (.ifCond .eq 17, 3) := by decide +kernel
theorem dX8_paneAt_13 : decode cX8_paneAt 13 = .ok (.aload_n 0, 1) := by decide +kernel
theorem dX8_paneAt_14 : decode cX8_paneAt 14 = .ok (.getfield 25, 3) := by decide +kernel
theorem dX8_paneAt_17 : decode cX8_paneAt 17 = .ok (.bipush 7, 2) := by decide +kernel
theorem dX8_paneAt_19 : decode cX8_paneAt 19 = .ok (.iload_n 1, 1) := by decide +kernel
theorem dX8_paneAt_20 : decode cX8_paneAt 20 = .ok (.imul, 1) := by decide +kernel
theorem dX8_paneAt_21 : decode cX8_paneAt 21 = .ok (.iload_n 2, 1) := by decide +kernel
theorem dX8_paneAt_22 : decode cX8_paneAt 22 = .ok (.iadd, 1) := by decide +kernel
theorem dX8_paneAt_23 : decode cX8_paneAt 23 = .ok (.iaload, 1) := by decide +kernel
theorem dX8_paneAt_24 : decode cX8_paneAt 24 = .ok (.goto 4, 3) := by decide +kernel
theorem dX8_paneAt_27 : decode cX8_paneAt 27 = .ok (.iconst (-1), 1) := by decide +kernel
theorem dX8_paneAt_28 : decode cX8_paneAt 28 = .ok (.ireturn, 1) := by decide +kernel
theorem dX8_paneSize_0 : decode cX8_paneSize 0 = .ok (.aload_n 0, 1) := by decide +kernel
theorem dX8_paneSize_1 : decode cX8_paneSize 1 = .ok (.iload_n 1, 1) := by decide +kernel
theorem dX8_paneSize_2 : decode cX8_paneSize 2 = .ok (.invokevirtual 156, 3) := by decide +kernel
theorem dX8_paneSize_5 : decode cX8_paneSize 5 = .ok (.ifCond .eq 12, 3) := by decide +kernel
theorem dX8_paneSize_8 : decode cX8_paneSize 8 = .ok (.aload_n 0, 1) := by decide +kernel
theorem dX8_paneSize_9 : decode cX8_paneSize 9 = .ok (.getfield 31, 3) := by decide +kernel
theorem dX8_paneSize_12 : decode cX8_paneSize 12 = .ok (.iload_n 1, 1) := by decide +kernel
theorem dX8_paneSize_13 : decode cX8_paneSize 13 = .ok (.iaload, 1) := by decide +kernel
theorem dX8_paneSize_14 : decode cX8_paneSize 14 = .ok (.goto 4, 3) := by decide +kernel
theorem dX8_paneSize_17 : decode cX8_paneSize 17 = .ok (.iconst (-1), 1) := by decide +kernel
theorem dX8_paneSize_18 : decode cX8_paneSize 18 = .ok (.ireturn, 1) := by decide +kernel
theorem dX8_innerCorners_0 : decode cX8_innerCorners 0 = .ok (.aload_n 0, 1) := by decide +kernel
theorem dX8_innerCorners_1 : decode cX8_innerCorners 1 = .ok (.iload_n 1, 1) := by decide +kernel
theorem dX8_innerCorners_2 : decode cX8_innerCorners 2 = .ok (.invokevirtual 156, 3) := by decide +kernel
theorem dX8_innerCorners_5 : decode cX8_innerCorners 5 = .ok (.ifCond .eq 15, 3) := by decide +kernel
theorem dX8_innerCorners_8 : decode cX8_innerCorners 8 = .ok (.aload_n 0, 1) := by decide +kernel
theorem dX8_innerCorners_9 : decode cX8_innerCorners 9 = .ok (.aload_n 0, 1) := by decide +kernel
theorem dX8_innerCorners_10 : decode cX8_innerCorners 10 = .ok (.getfield 25, 3) := by decide +kernel
theorem dX8_innerCorners_13 : decode cX8_innerCorners 13 = .ok (.iload_n 1, 1) := by decide +kernel
theorem dX8_innerCorners_14 : decode cX8_innerCorners 14 = .ok (.invokevirtual 146, 3) := by decide +kernel
theorem dX8_innerCorners_17 : decode cX8_innerCorners 17 = .ok (.goto 4, 3) := by decide +kernel
theorem dX8_innerCorners_20 : decode cX8_innerCorners 20 = .ok (.iconst (-1), 1) := by decide +kernel
theorem dX8_innerCorners_21 : decode cX8_innerCorners 21 = .ok (.ireturn, 1) := by decide +kernel
theorem dX8_holes_0 : decode cX8_holes 0 = .ok (.aload_n 0, 1) := by decide +kernel
theorem dX8_holes_1 : decode cX8_holes 1 = .ok (.iload_n 1, 1) := by decide +kernel
theorem dX8_holes_2 : decode cX8_holes 2 = .ok (.invokevirtual 156, 3) := by decide +kernel
theorem dX8_holes_5 : decode cX8_holes 5 = .ok (.ifCond .eq 15, 3) := by decide +kernel
theorem dX8_holes_8 : decode cX8_holes 8 = .ok (.aload_n 0, 1) := by decide +kernel
theorem dX8_holes_9 : decode cX8_holes 9 = .ok (.aload_n 0, 1) := by decide +kernel
theorem dX8_holes_10 : decode cX8_holes 10 = .ok (.getfield 25, 3) := by decide +kernel
theorem dX8_holes_13 : decode cX8_holes 13 = .ok (.iload_n 1, 1) := by decide +kernel
theorem dX8_holes_14 : decode cX8_holes 14 = .ok (.invokevirtual 150, 3) := by decide +kernel
theorem dX8_holes_17 : decode cX8_holes 17 = .ok (.goto 4, 3) := by decide +kernel
theorem dX8_holes_20 : decode cX8_holes 20 = .ok (.iconst (-1), 1) := by decide +kernel
theorem dX8_holes_21 : decode cX8_holes 21 = .ok (.ireturn, 1) := by decide +kernel
theorem dX8_canBeCut_0 : decode cX8_canBeCut 0 = .ok (.aload_n 0, 1) := by decide +kernel
theorem dX8_canBeCut_1 : decode cX8_canBeCut 1 = .ok (.iload_n 1, 1) := by decide +kernel
theorem dX8_canBeCut_2 : decode cX8_canBeCut 2 = .ok (.invokevirtual 156, 3) := by decide +kernel
theorem dX8_canBeCut_5 : decode cX8_canBeCut 5 = .ok (.ifCond .ne 7, 3) := by decide +kernel
theorem dX8_canBeCut_8 : decode cX8_canBeCut 8 = .ok (.iconst (-1), 1) := by decide +kernel
theorem dX8_canBeCut_9 : decode cX8_canBeCut 9 = .ok (.goto 16, 3) := by decide +kernel
theorem dX8_canBeCut_12 : decode cX8_canBeCut 12 = .ok (.aload_n 0, 1) := by decide +kernel
theorem dX8_canBeCut_13 : decode cX8_canBeCut 13 = .ok (.iload_n 1, 1) := by decide +kernel
theorem dX8_canBeCut_14 : decode cX8_canBeCut 14 = .ok (.invokevirtual 159, 3) := by decide +kernel
theorem dX8_canBeCut_17 : decode cX8_canBeCut 17 = .ok (.ifCond .eq 7, 3) := by decide +kernel
theorem dX8_canBeCut_20 : decode cX8_canBeCut 20 = .ok (.iconst 1, 1) := by decide +kernel
theorem dX8_canBeCut_21 : decode cX8_canBeCut 21 = .ok (.goto 4, 3) := by decide +kernel
theorem dX8_canBeCut_24 : decode cX8_canBeCut 24 = .ok (.iconst 0, 1) := by decide +kernel
theorem dX8_canBeCut_25 : decode cX8_canBeCut 25 = .ok (.ireturn, 1) := by decide +kernel
theorem dX8_cuttableCount_0 : decode cX8_cuttableCount 0 = .ok (.aload_n 0, 1) := by decide +kernel
theorem dX8_cuttableCount_1 : decode cX8_cuttableCount 1 = .ok (.invokevirtual 89, 3) := by decide +kernel
theorem dX8_cuttableCount_4 : decode cX8_cuttableCount 4 = .ok (.iconst 0, 1) := by decide +kernel
theorem dX8_cuttableCount_5 : decode cX8_cuttableCount 5 = .ok (.istore_n 1, 1) := by decide +kernel
theorem dX8_cuttableCount_6 : decode cX8_cuttableCount 6 = .ok (.iconst 0, 1) := by decide +kernel
theorem dX8_cuttableCount_7 : decode cX8_cuttableCount 7 = .ok (.istore_n 2, 1) := by decide +kernel
theorem dX8_cuttableCount_8 : decode cX8_cuttableCount 8 = .ok (.iload_n 2, 1) := by decide +kernel
theorem dX8_cuttableCount_9 : decode cX8_cuttableCount 9 = .ok (.aload_n 0, 1) := by decide +kernel
theorem dX8_cuttableCount_10 : decode cX8_cuttableCount 10 = .ok (.getfield 92, 3) := by decide +kernel
theorem dX8_cuttableCount_13 : decode cX8_cuttableCount 13 = .ok (.if_icmp .ge 25, 3) := by decide +kernel
theorem dX8_cuttableCount_16 : decode cX8_cuttableCount 16 = .ok (.iload_n 1, 1) := by decide +kernel
theorem dX8_cuttableCount_17 : decode cX8_cuttableCount 17 = .ok (.aload_n 0, 1) := by decide +kernel
theorem dX8_cuttableCount_18 : decode cX8_cuttableCount 18 = .ok (.iload_n 2, 1) := by decide +kernel
theorem dX8_cuttableCount_19 : decode cX8_cuttableCount 19 = .ok (.invokevirtual 159, 3) := by decide +kernel
theorem dX8_cuttableCount_22 : decode cX8_cuttableCount 22 = .ok (.ifCond .eq 7, 3) := by decide +kernel
theorem dX8_cuttableCount_25 : decode cX8_cuttableCount 25 = .ok (.iconst 1, 1) := by decide +kernel
theorem dX8_cuttableCount_26 : decode cX8_cuttableCount 26 = .ok (.goto 4, 3) := by decide +kernel
theorem dX8_cuttableCount_29 : decode cX8_cuttableCount 29 = .ok (.iconst 0, 1) := by decide +kernel
theorem dX8_cuttableCount_30 : decode cX8_cuttableCount 30 = .ok (.iadd, 1) := by decide +kernel
theorem dX8_cuttableCount_31 : decode cX8_cuttableCount 31 = .ok (.istore_n 1, 1) := by decide +kernel
theorem dX8_cuttableCount_32 : decode cX8_cuttableCount 32 = .ok (.iinc 2 1, 3) := by decide +kernel
theorem dX8_cuttableCount_35 : decode cX8_cuttableCount 35 = .ok (.goto (-27), 3) := by decide +kernel
theorem dX8_cuttableCount_38 : decode cX8_cuttableCount 38 = .ok (.iload_n 1, 1) := by decide +kernel
theorem dX8_cuttableCount_39 : decode cX8_cuttableCount 39 = .ok (.ireturn, 1) := by decide +kernel
theorem dX8_isLoose_0 : decode cX8_isLoose 0 = .ok (.iload_n 1, 1) := by decide +kernel
theorem dX8_isLoose_1 : decode cX8_isLoose 1 = .ok (.bipush 49, 2) := by decide +kernel
theorem dX8_isLoose_3 : decode cX8_isLoose 3 = .ok (.irem, 1) := by decide +kernel
theorem dX8_isLoose_4 : decode cX8_isLoose 4 = .ok (.istore_n 2, 1) := by decide +kernel
theorem dX8_isLoose_5 : decode cX8_isLoose 5 = .ok (.aload_n 0, 1) := by decide +kernel
theorem dX8_isLoose_6 : decode cX8_isLoose 6 = .ok (.getfield 7, 3) := by decide +kernel
theorem dX8_isLoose_9 : decode cX8_isLoose 9 = .ok (.bipush 53, 2) := by decide +kernel
theorem dX8_isLoose_11 : decode cX8_isLoose 11 = .ok (.iload_n 1, 1) := by decide +kernel
theorem dX8_isLoose_12 : decode cX8_isLoose 12 = .ok (.iadd, 1) := by decide +kernel
theorem dX8_isLoose_13 : decode cX8_isLoose 13 = .ok (.iaload, 1) := by decide +kernel
theorem dX8_isLoose_14 : decode cX8_isLoose 14 = .ok (.iconst 1, 1) := by decide +kernel
theorem dX8_isLoose_15 : decode cX8_isLoose 15 = .ok (.if_icmp .ne 30, 3) := by decide +kernel
theorem dX8_isLoose_18 : decode cX8_isLoose 18 = .ok (.aload_n 0, 1) := by decide +kernel
theorem dX8_isLoose_19 : decode cX8_isLoose 19 = .ok (.getfield 25, 3) := by decide +kernel
theorem dX8_isLoose_22 : decode cX8_isLoose 22 = .ok (.iload_n 2, 1) := by decide +kernel
theorem dX8_isLoose_23 : decode cX8_isLoose 23 = .ok (.iaload, 1) := by decide +kernel
theorem dX8_isLoose_24 : decode cX8_isLoose 24 = .ok (.aload_n 0, 1) := by decide +kernel
theorem dX8_isLoose_25 : decode cX8_isLoose 25 = .ok (.getfield 25, 3) := by decide +kernel
theorem dX8_isLoose_28 : decode cX8_isLoose 28 = .ok (.iload_n 2, 1) := by decide +kernel
theorem dX8_isLoose_29 : decode cX8_isLoose 29 = .ok (.iload_n 1, 1) := by decide +kernel
theorem dX8_isLoose_30 : decode cX8_isLoose 30 = .ok (.bipush 49, 2) := by decide +kernel
theorem dX8_isLoose_32 : decode cX8_isLoose 32 = .ok (.idiv, 1) := by decide +kernel
theorem dX8_isLoose_33 : decode cX8_isLoose 33 = .ok (.invokestatic 106, 3) := by decide +kernel
theorem dX8_isLoose_36 : decode cX8_isLoose 36 = .ok (.iadd, 1) := by decide +kernel
theorem dX8_isLoose_37 : decode cX8_isLoose 37 = .ok (.iaload, 1) := by decide +kernel
theorem dX8_isLoose_38 : decode cX8_isLoose 38 = .ok (.if_icmp .ne 7, 3) := by decide +kernel
theorem dX8_isLoose_41 : decode cX8_isLoose 41 = .ok (.iconst 1, 1) := by decide +kernel
theorem dX8_isLoose_42 : decode cX8_isLoose 42 = .ok (.goto 4, 3) := by decide +kernel
theorem dX8_isLoose_45 : decode cX8_isLoose 45 = .ok (.iconst 0, 1) := by decide +kernel
theorem dX8_isLoose_46 : decode cX8_isLoose 46 = .ok (.ireturn, 1) := by decide +kernel
theorem dX8_looseCuts_0 : decode cX8_looseCuts 0 = .ok (.aload_n 0, 1) := by decide +kernel
theorem dX8_looseCuts_1 : decode cX8_looseCuts 1 = .ok (.invokevirtual 89, 3) := by decide +kernel
theorem dX8_looseCuts_4 : decode cX8_looseCuts 4 = .ok (.iconst 0, 1) := by decide +kernel
theorem dX8_looseCuts_5 : decode cX8_looseCuts 5 = .ok (.istore_n 1, 1) := by decide +kernel
theorem dX8_looseCuts_6 : decode cX8_looseCuts 6 = .ok (.iconst 0, 1) := by decide +kernel
theorem dX8_looseCuts_7 : decode cX8_looseCuts 7 = .ok (.istore_n 2, 1) := by decide +kernel
theorem dX8_looseCuts_8 : decode cX8_looseCuts 8 = .ok (.iload_n 2, 1) := by decide +kernel
theorem dX8_looseCuts_9 : decode cX8_looseCuts 9 = .ok (.bipush 98, 2) := by decide +kernel
theorem dX8_looseCuts_11 : decode cX8_looseCuts 11 = .ok (.if_icmp .ge 25, 3) := by decide +kernel
theorem dX8_looseCuts_14 : decode cX8_looseCuts 14 = .ok (.iload_n 1, 1) := by decide +kernel
theorem dX8_looseCuts_15 : decode cX8_looseCuts 15 = .ok (.aload_n 0, 1) := by decide +kernel
theorem dX8_looseCuts_16 : decode cX8_looseCuts 16 = .ok (.iload_n 2, 1) := by decide +kernel
theorem dX8_looseCuts_17 : decode cX8_looseCuts 17 = .ok (.invokevirtual 162, 3) := by decide +kernel
theorem dX8_looseCuts_20 : decode cX8_looseCuts 20 = .ok (.ifCond .eq 7, 3) := by decide +kernel
theorem dX8_looseCuts_23 : decode cX8_looseCuts 23 = .ok (.iconst 1, 1) := by decide +kernel
theorem dX8_looseCuts_24 : decode cX8_looseCuts 24 = .ok (.goto 4, 3) := by decide +kernel
theorem dX8_looseCuts_27 : decode cX8_looseCuts 27 = .ok (.iconst 0, 1) := by decide +kernel
theorem dX8_looseCuts_28 : decode cX8_looseCuts 28 = .ok (.iadd, 1) := by decide +kernel
theorem dX8_looseCuts_29 : decode cX8_looseCuts 29 = .ok (.istore_n 1, 1) := by decide +kernel
theorem dX8_looseCuts_30 : decode cX8_looseCuts 30 = .ok (.iinc 2 1, 3) := by decide +kernel
theorem dX8_looseCuts_33 : decode cX8_looseCuts 33 = .ok (.goto (-25), 3) := by decide +kernel
theorem dX8_looseCuts_36 : decode cX8_looseCuts 36 = .ok (.iload_n 1, 1) := by decide +kernel
theorem dX8_looseCuts_37 : decode cX8_looseCuts 37 = .ok (.ireturn, 1) := by decide +kernel
theorem dX8_removeLooseCuts_0 : decode cX8_removeLooseCuts 0 = .ok (.aload_n 0, 1) := by decide +kernel
theorem dX8_removeLooseCuts_1 : decode cX8_removeLooseCuts 1 = .ok (.invokevirtual 165, 3) := by decide +kernel
theorem dX8_removeLooseCuts_4 : decode cX8_removeLooseCuts 4 = .ok (.istore_n 1, 1) := by decide +kernel
theorem dX8_removeLooseCuts_5 : decode cX8_removeLooseCuts 5 = .ok (.iload_n 1, 1) := by decide +kernel
theorem dX8_removeLooseCuts_6 : decode cX8_removeLooseCuts 6 = .ok (.ifCond .ne 6, 3) := by decide +kernel
theorem dX8_removeLooseCuts_9 : decode cX8_removeLooseCuts 9 = .ok (.bipush (-2), 2) := by decide +kernel
theorem dX8_removeLooseCuts_11 : decode cX8_removeLooseCuts 11 = .ok (.ireturn, 1) := by decide +kernel
theorem dX8_removeLooseCuts_12 : decode cX8_removeLooseCuts 12 = .ok (.aload_n 0, 1) := by decide +kernel
theorem dX8_removeLooseCuts_13 : decode cX8_removeLooseCuts 13 = .ok (.invokevirtual 73, 3) := by decide +kernel
theorem dX8_removeLooseCuts_16 : decode cX8_removeLooseCuts 16 = .ok (.iconst 0, 1) := by decide +kernel
theorem dX8_removeLooseCuts_17 : decode cX8_removeLooseCuts 17 = .ok (.istore_n 2, 1) := by decide +kernel
theorem dX8_removeLooseCuts_18 : decode cX8_removeLooseCuts 18 = .ok (.iload_n 2, 1) := by decide +kernel
theorem dX8_removeLooseCuts_19 : decode cX8_removeLooseCuts 19 = .ok (.bipush 98, 2) := by decide +kernel
theorem dX8_removeLooseCuts_21 : decode cX8_removeLooseCuts 21 = .ok (.if_icmp .ge 39, 3) := by decide +kernel
theorem dX8_removeLooseCuts_24 : decode cX8_removeLooseCuts 24 = .ok (.aload_n 0, 1) := by decide +kernel
theorem dX8_removeLooseCuts_25 : decode cX8_removeLooseCuts 25 = .ok (.getfield 7, 3) := by decide +kernel
theorem dX8_removeLooseCuts_28 : decode cX8_removeLooseCuts 28 = .ok (.bipush 53, 2) := by decide +kernel
theorem dX8_removeLooseCuts_30 : decode cX8_removeLooseCuts 30 = .ok (.iload_n 2, 1) := by decide +kernel
theorem dX8_removeLooseCuts_31 : decode cX8_removeLooseCuts 31 = .ok (.iadd, 1) := by decide +kernel
theorem dX8_removeLooseCuts_32 : decode cX8_removeLooseCuts 32 = .ok (.aload_n 0, 1) := by decide +kernel
theorem dX8_removeLooseCuts_33 : decode cX8_removeLooseCuts 33 = .ok (.iload_n 2, 1) := by decide +kernel
theorem dX8_removeLooseCuts_34 : decode cX8_removeLooseCuts 34 = .ok (.invokevirtual 162, 3) := by decide +kernel
theorem dX8_removeLooseCuts_37 : decode cX8_removeLooseCuts 37 = .ok (.ifCond .eq 7, 3) := by decide +kernel
theorem dX8_removeLooseCuts_40 : decode cX8_removeLooseCuts 40 = .ok (.iconst 0, 1) := by decide +kernel
theorem dX8_removeLooseCuts_41 : decode cX8_removeLooseCuts 41 = .ok (.goto 12, 3) := by decide +kernel
theorem dX8_removeLooseCuts_44 : decode cX8_removeLooseCuts 44 = .ok (.aload_n 0, 1) := by decide +kernel
theorem dX8_removeLooseCuts_45 : decode cX8_removeLooseCuts 45 = .ok (.getfield 7, 3) := by decide +kernel
theorem dX8_removeLooseCuts_48 : decode cX8_removeLooseCuts 48 = .ok (.bipush 53, 2) := by decide +kernel
theorem dX8_removeLooseCuts_50 : decode cX8_removeLooseCuts 50 = .ok (.iload_n 2, 1) := by decide +kernel
theorem dX8_removeLooseCuts_51 : decode cX8_removeLooseCuts 51 = .ok (.iadd, 1) := by decide +kernel
theorem dX8_removeLooseCuts_52 : decode cX8_removeLooseCuts 52 = .ok (.iaload, 1) := by decide +kernel
theorem dX8_removeLooseCuts_53 : decode cX8_removeLooseCuts 53 = .ok (.iastore, 1) := by decide +kernel
theorem dX8_removeLooseCuts_54 : decode cX8_removeLooseCuts 54 = .ok (.iinc 2 1, 3) := by decide +kernel
theorem dX8_removeLooseCuts_57 : decode cX8_removeLooseCuts 57 = .ok (.goto (-39), 3) := by decide +kernel
theorem dX8_removeLooseCuts_60 : decode cX8_removeLooseCuts 60 = .ok (.iload_n 1, 1) := by decide +kernel
theorem dX8_removeLooseCuts_61 : decode cX8_removeLooseCuts 61 = .ok (.ireturn, 1) := by decide +kernel
theorem dX8_findNear_0 : decode cX8_findNear 0 = .ok (.aload_n 0, 1) := by decide +kernel
theorem dX8_findNear_1 : decode cX8_findNear 1 = .ok (.invokevirtual 89, 3) := by decide +kernel
theorem dX8_findNear_4 : decode cX8_findNear 4 = .ok (.iconst 0, 1) := by decide +kernel
theorem dX8_findNear_5 : decode cX8_findNear 5 = .ok (.istore_n 1, 1) := by decide +kernel
theorem dX8_findNear_6 : decode cX8_findNear 6 = .ok (.iload_n 1, 1) := by decide +kernel
theorem dX8_findNear_7 : decode cX8_findNear 7 = .ok (.sipush 2401, 3) := by decide +kernel
theorem dX8_findNear_10 : decode cX8_findNear 10 = .ok (.if_icmp .ge 16, 3) := by decide +kernel
theorem dX8_findNear_13 : decode cX8_findNear 13 = .ok (.aload_n 0, 1) := by decide +kernel
theorem dX8_findNear_14 : decode cX8_findNear 14 = .ok (.getfield 38, 3) := by decide +kernel
theorem dX8_findNear_17 : decode cX8_findNear 17 = .ok (.iload_n 1, 1) := by decide +kernel
theorem dX8_findNear_18 : decode cX8_findNear 18 = .ok (.iconst 0, 1) := by decide +kernel
theorem dX8_findNear_19 : decode cX8_findNear 19 = .ok (.bastore, 1) := by decide +kernel
theorem dX8_findNear_20 : decode cX8_findNear 20 = .ok (.iinc 1 1, 3) := by decide +kernel
theorem dX8_findNear_23 : decode cX8_findNear 23 = .ok (.goto (-17), 3) := by decide +kernel
theorem dX8_findNear_26 : decode cX8_findNear 26 = .ok (.iconst 0, 1) := by decide +kernel
theorem dX8_findNear_27 : decode cX8_findNear 27 = .ok (.istore_n 1, 1) := by decide +kernel
theorem dX8_findNear_28 : decode cX8_findNear 28 = .ok (.iconst 0, 1) := by decide +kernel
theorem dX8_findNear_29 : decode cX8_findNear 29 = .ok (.istore_n 2, 1) := by decide +kernel
theorem dX8_findNear_30 : decode cX8_findNear 30 = .ok (.iload_n 2, 1) := by decide +kernel
theorem dX8_findNear_31 : decode cX8_findNear 31 = .ok (.bipush 98, 2) := by decide +kernel
theorem dX8_findNear_33 : decode cX8_findNear 33 = .ok (.if_icmp .ge 130, 3) := by decide +kernel
theorem dX8_findNear_36 : decode cX8_findNear 36 = .ok (.iload_n 2, 1) := by decide +kernel
theorem dX8_findNear_37 : decode cX8_findNear 37 = .ok (.bipush 49, 2) := by decide +kernel
theorem dX8_findNear_39 : decode cX8_findNear 39 = .ok (.irem, 1) := by decide +kernel
theorem dX8_findNear_40 : decode cX8_findNear 40 = .ok (.istore_n 3, 1) := by decide +kernel
theorem dX8_findNear_41 : decode cX8_findNear 41 = .ok (.aload_n 0, 1) := by decide +kernel
theorem dX8_findNear_42 : decode cX8_findNear 42 = .ok (.iload_n 3, 1) := by decide +kernel
theorem dX8_findNear_43 : decode cX8_findNear 43 = .ok (.bipush 7, 2) := by decide +kernel
theorem dX8_findNear_45 : decode cX8_findNear 45 = .ok (.idiv, 1) := by decide +kernel
theorem dX8_findNear_46 : decode cX8_findNear 46 = .ok (.iload_n 3, 1) := by decide +kernel
theorem dX8_findNear_47 : decode cX8_findNear 47 = .ok (.bipush 7, 2) := by decide +kernel
theorem dX8_findNear_49 : decode cX8_findNear 49 = .ok (.irem, 1) := by decide +kernel
theorem dX8_findNear_50 : decode cX8_findNear 50 = .ok (.invokevirtual 95, 3) := by decide +kernel
theorem dX8_findNear_53 : decode cX8_findNear 53 = .ok (.ifCond .eq 104, 3) := by decide +kernel
theorem dX8_findNear_56 : decode cX8_findNear 56 = .ok (.aload_n 0, 1) := by decide +kernel
theorem dX8_findNear_57 : decode cX8_findNear 57 = .ok (.iload_n 3, 1) := by decide +kernel
theorem dX8_findNear_58 : decode cX8_findNear 58 = .ok (.iload_n 2, 1) := by decide +kernel
theorem dX8_findNear_59 : decode cX8_findNear 59 = .ok (.bipush 49, 2) := by decide +kernel
theorem dX8_findNear_61 : decode cX8_findNear 61 = .ok (.idiv, 1) := by decide +kernel
theorem dX8_findNear_62 : decode cX8_findNear 62 = .ok (.invokevirtual 103, 3) := by decide +kernel
theorem dX8_findNear_65 : decode cX8_findNear 65 = .ok (.ifCond .eq 92, 3) := by decide +kernel
theorem dX8_findNear_68 : decode cX8_findNear 68 = .ok (.aload_n 0, 1) := by decide +kernel
theorem dX8_findNear_69 : decode cX8_findNear 69 = .ok (.getfield 25, 3) := by decide +kernel
theorem dX8_findNear_72 : decode cX8_findNear 72 = .ok (.iload_n 3, 1) := by decide +kernel
theorem dX8_findNear_73 : decode cX8_findNear 73 = .ok (.iaload, 1) := by decide +kernel
theorem dX8_findNear_74 : decode cX8_findNear 74 = .ok (.istore 4, 2) := by decide +kernel
theorem dX8_findNear_76 : decode cX8_findNear 76 = .ok (.aload_n 0, 1) := by decide +kernel
theorem dX8_findNear_77 : decode cX8_findNear 77 = .ok (.getfield 25, 3) := by decide +kernel
theorem dX8_findNear_80 : decode cX8_findNear 80 = .ok (.iload_n 3, 1) := by decide +kernel
theorem dX8_findNear_81 : decode cX8_findNear 81 = .ok (.iload_n 2, 1) := by decide +kernel
theorem dX8_findNear_82 : decode cX8_findNear 82 = .ok (.bipush 49, 2) := by decide +kernel
theorem dX8_findNear_84 : decode cX8_findNear 84 = .ok (.idiv, 1) := by decide +kernel
theorem dX8_findNear_85 : decode cX8_findNear 85 = .ok (.invokestatic 106, 3) := by decide +kernel
theorem dX8_findNear_88 : decode cX8_findNear 88 = .ok (.iadd, 1) := by decide +kernel
theorem dX8_findNear_89 : decode cX8_findNear 89 = .ok (.iaload, 1) := by decide +kernel
theorem dX8_findNear_90 : decode cX8_findNear 90 = .ok (.istore 5, 2) := by decide +kernel
theorem dX8_findNear_92 : decode cX8_findNear 92 = .ok (.iload_n 1, 1) := by decide +kernel
theorem dX8_findNear_93 : decode cX8_findNear 93 = .ok (.iload 4, 2) := by decide +kernel
theorem dX8_findNear_95 : decode cX8_findNear 95 = .ok (.iload 5, 2) := by decide +kernel
theorem dX8_findNear_97 : decode cX8_findNear 97 = .ok (.if_icmp .eq 7, 3) := by decide +kernel
theorem dX8_findNear_100 : decode cX8_findNear 100 = .ok (.iconst 1, 1) := by decide +kernel
theorem dX8_findNear_101 : decode cX8_findNear 101 = .ok (.goto 4, 3) := by decide +kernel
theorem dX8_findNear_104 : decode cX8_findNear 104 = .ok (.iconst 0, 1) := by decide +kernel
theorem dX8_findNear_105 : decode cX8_findNear 105 = .ok (.iadd, 1) := by decide +kernel
theorem dX8_findNear_106 : decode cX8_findNear 106 = .ok (.istore_n 1, 1) := by decide +kernel
theorem dX8_findNear_107 : decode cX8_findNear 107 = .ok (.aload_n 0, 1) := by decide +kernel
theorem dX8_findNear_108 : decode cX8_findNear 108 = .ok (.getfield 38, 3) := by decide +kernel
theorem dX8_findNear_111 : decode cX8_findNear 111 = .ok (.bipush 49, 2) := by decide +kernel
theorem dX8_findNear_113 : decode cX8_findNear 113 = .ok (.iload 4, 2) := by decide +kernel
theorem dX8_findNear_115 : decode cX8_findNear 115 = .ok (.imul, 1) := by decide +kernel
theorem dX8_findNear_116 : decode cX8_findNear 116 = .ok (.iload 5, 2) := by decide +kernel
theorem dX8_findNear_118 : decode cX8_findNear 118 = .ok (.iadd, 1) := by decide +kernel
theorem dX8_findNear_119 : decode cX8_findNear 119 = .ok (.iload 4, 2) := by decide +kernel
theorem dX8_findNear_121 : decode cX8_findNear 121 = .ok (.iload 5, 2) := by decide +kernel
theorem dX8_findNear_123 : decode cX8_findNear 123 = .ok (.if_icmp .eq 7, 3) := by decide +kernel
theorem dX8_findNear_126 : decode cX8_findNear 126 = .ok (.iconst 1, 1) := by decide +kernel
theorem dX8_findNear_127 : decode cX8_findNear 127 = .ok (.goto 4, 3) := by decide +kernel
theorem dX8_findNear_130 : decode cX8_findNear 130 = .ok (.iconst 0, 1) := by decide +kernel
theorem dX8_findNear_131 : decode cX8_findNear 131 = .ok (.bastore, 1) := by decide +kernel
theorem dX8_findNear_132 : decode cX8_findNear 132 = .ok (.aload_n 0, 1) := by decide +kernel
theorem dX8_findNear_133 : decode cX8_findNear 133 = .ok (.getfield 38, 3) := by decide +kernel
theorem dX8_findNear_136 : decode cX8_findNear 136 = .ok (.bipush 49, 2) := by decide +kernel
theorem dX8_findNear_138 : decode cX8_findNear 138 = .ok (.iload 5, 2) := by decide +kernel
theorem dX8_findNear_140 : decode cX8_findNear 140 = .ok (.imul, 1) := by decide +kernel
theorem dX8_findNear_141 : decode cX8_findNear 141 = .ok (.iload 4, 2) := by decide +kernel
theorem dX8_findNear_143 : decode cX8_findNear 143 = .ok (.iadd, 1) := by decide +kernel
theorem dX8_findNear_144 : decode cX8_findNear 144 = .ok (.iload 4, 2) := by decide +kernel
theorem dX8_findNear_146 : decode cX8_findNear 146 = .ok (.iload 5, 2) := by decide +kernel
theorem dX8_findNear_148 : decode cX8_findNear 148 = .ok (.if_icmp .eq 7, 3) := by decide +kernel
theorem dX8_findNear_151 : decode cX8_findNear 151 = .ok (.iconst 1, 1) := by decide +kernel
theorem dX8_findNear_152 : decode cX8_findNear 152 = .ok (.goto 4, 3) := by decide +kernel
theorem dX8_findNear_155 : decode cX8_findNear 155 = .ok (.iconst 0, 1) := by decide +kernel
theorem dX8_findNear_156 : decode cX8_findNear 156 = .ok (.bastore, 1) := by decide +kernel
theorem dX8_findNear_157 : decode cX8_findNear 157 = .ok (.iinc 2 1, 3) := by decide +kernel
theorem dX8_findNear_160 : decode cX8_findNear 160 = .ok (.goto (-130), 3) := by decide +kernel
theorem dX8_findNear_163 : decode cX8_findNear 163 = .ok (.iconst 0, 1) := by decide +kernel
theorem dX8_findNear_164 : decode cX8_findNear 164 = .ok (.istore_n 2, 1) := by decide +kernel
theorem dX8_findNear_165 : decode cX8_findNear 165 = .ok (.iload_n 2, 1) := by decide +kernel
theorem dX8_findNear_166 : decode cX8_findNear 166 = .ok (.aload_n 0, 1) := by decide +kernel
theorem dX8_findNear_167 : decode cX8_findNear 167 = .ok (.getfield 92, 3) := by decide +kernel
theorem dX8_findNear_170 : decode cX8_findNear 170 = .ok (.if_icmp .ge 60, 3) := by decide +kernel
theorem dX8_findNear_173 : decode cX8_findNear 173 = .ok (.aload_n 0, 1) := by decide +kernel
theorem dX8_findNear_174 : decode cX8_findNear 174 = .ok (.getfield 41, 3) := by decide +kernel
theorem dX8_findNear_177 : decode cX8_findNear 177 = .ok (.iload_n 2, 1) := by decide +kernel
theorem dX8_findNear_178 : decode cX8_findNear 178 = .ok (.iconst 0, 1) := by decide +kernel
theorem dX8_findNear_179 : decode cX8_findNear 179 = .ok (.iastore, 1) := by decide +kernel
theorem dX8_findNear_180 : decode cX8_findNear 180 = .ok (.iconst 0, 1) := by decide +kernel
theorem dX8_findNear_181 : decode cX8_findNear 181 = .ok (.istore_n 3, 1) := by decide +kernel
theorem dX8_findNear_182 : decode cX8_findNear 182 = .ok (.iload_n 3, 1) := by decide +kernel
theorem dX8_findNear_183 : decode cX8_findNear 183 = .ok (.aload_n 0, 1) := by decide +kernel
theorem dX8_findNear_184 : decode cX8_findNear 184 = .ok (.getfield 92, 3) := by decide +kernel
theorem dX8_findNear_187 : decode cX8_findNear 187 = .ok (.if_icmp .ge 37, 3) := by decide +kernel
theorem dX8_findNear_190 : decode cX8_findNear 190 = .ok (.aload_n 0, 1) := by decide +kernel
theorem dX8_findNear_191 : decode cX8_findNear 191 = .ok (.getfield 41, 3) := by decide +kernel
theorem dX8_findNear_194 : decode cX8_findNear 194 = .ok (.iload_n 2, 1) := by decide +kernel
theorem dX8_findNear_195 : decode cX8_findNear 195 = .ok (.dup2, 1) := by decide +kernel
theorem dX8_findNear_196 : decode cX8_findNear 196 = .ok (.iaload, 1) := by decide +kernel
theorem dX8_findNear_197 : decode cX8_findNear 197 = .ok (.aload_n 0, 1) := by decide +kernel
theorem dX8_findNear_198 : decode cX8_findNear 198 = .ok (.getfield 38, 3) := by decide +kernel
theorem dX8_findNear_201 : decode cX8_findNear 201 = .ok (.bipush 49, 2) := by decide +kernel
theorem dX8_findNear_203 : decode cX8_findNear 203 = .ok (.iload_n 2, 1) := by decide +kernel
theorem dX8_findNear_204 : decode cX8_findNear 204 = .ok (.imul, 1) := by decide +kernel
theorem dX8_findNear_205 : decode cX8_findNear 205 = .ok (.iload_n 3, 1) := by decide +kernel
theorem dX8_findNear_206 : decode cX8_findNear 206 = .ok (.iadd, 1) := by decide +kernel
theorem dX8_findNear_207 : decode cX8_findNear 207 = .ok (.baload, 1) := by decide +kernel
theorem dX8_findNear_208 : decode cX8_findNear 208 = .ok (.ifCond .eq 7, 3) := by decide +kernel
theorem dX8_findNear_211 : decode cX8_findNear 211 = .ok (.iconst 1, 1) := by decide +kernel
theorem dX8_findNear_212 : decode cX8_findNear 212 = .ok (.goto 4, 3) := by decide +kernel
theorem dX8_findNear_215 : decode cX8_findNear 215 = .ok (.iconst 0, 1) := by decide +kernel
theorem dX8_findNear_216 : decode cX8_findNear 216 = .ok (.iadd, 1) := by decide +kernel
theorem dX8_findNear_217 : decode cX8_findNear 217 = .ok (.iastore, 1) := by decide +kernel
theorem dX8_findNear_218 : decode cX8_findNear 218 = .ok (.iinc 3 1, 3) := by decide +kernel
theorem dX8_findNear_221 : decode cX8_findNear 221 = .ok (.goto (-39), 3) := by decide +kernel
theorem dX8_findNear_224 : decode cX8_findNear 224 = .ok (.iinc 2 1, 3) := by decide +kernel
theorem dX8_findNear_227 : decode cX8_findNear 227 = .ok (.goto (-62), 3) := by decide +kernel
theorem dX8_findNear_230 : decode cX8_findNear 230 = .ok (.iload_n 1, 1) := by decide +kernel
theorem dX8_findNear_231 : decode cX8_findNear 231 = .ok (.ireturn, 1) := by decide +kernel
theorem dX8_neighbourCount_0 : decode cX8_neighbourCount 0 = .ok (.aload_n 0, 1) := by decide +kernel
theorem dX8_neighbourCount_1 : decode cX8_neighbourCount 1 = .ok (.invokevirtual 168, 3) := by decide +kernel
theorem dX8_neighbourCount_4 : decode cX8_neighbourCount 4 = .ok (.istore_n 2, 1) := by decide +kernel
theorem dX8_neighbourCount_5 : decode cX8_neighbourCount 5 = .ok (.iload_n 1, 1) := by decide +kernel
theorem dX8_neighbourCount_6 : decode cX8_neighbourCount 6 = .ok (.iconst 0, 1) := by decide +kernel
theorem dX8_neighbourCount_7 : decode cX8_neighbourCount 7 = .ok (.aload_n 0, 1) := by decide +kernel
theorem dX8_neighbourCount_8 : decode cX8_neighbourCount 8 = .ok (.getfield 92, 3) := by decide +kernel
theorem dX8_neighbourCount_11 : decode cX8_neighbourCount 11 = .ok (.iconst 1, 1) := by decide +kernel
theorem dX8_neighbourCount_12 : decode cX8_neighbourCount 12 = .ok (.isub, 1) := by decide +kernel
theorem dX8_neighbourCount_13 : decode cX8_neighbourCount 13 = .ok (.invokestatic 65, 3) := by decide +kernel
theorem dX8_neighbourCount_16 : decode cX8_neighbourCount 16 = .ok (.ifCond .eq 12, 3) := by decide +kernel
theorem dX8_neighbourCount_19 : decode cX8_neighbourCount 19 = .ok (.aload_n 0, 1) := by decide +kernel
theorem dX8_neighbourCount_20 : decode cX8_neighbourCount 20 = .ok (.getfield 41, 3) := by decide +kernel
theorem dX8_neighbourCount_23 : decode cX8_neighbourCount 23 = .ok (.iload_n 1, 1) := by decide +kernel
theorem dX8_neighbourCount_24 : decode cX8_neighbourCount 24 = .ok (.iaload, 1) := by decide +kernel
theorem dX8_neighbourCount_25 : decode cX8_neighbourCount 25 = .ok (.goto 4, 3) := by decide +kernel
theorem dX8_neighbourCount_28 : decode cX8_neighbourCount 28 = .ok (.iconst (-1), 1) := by decide +kernel
theorem dX8_neighbourCount_29 : decode cX8_neighbourCount 29 = .ok (.ireturn, 1) := by decide +kernel
theorem dX8_leadLength_0 : decode cX8_leadLength 0 = .ok (.aload_n 0, 1) := by decide +kernel
theorem dX8_leadLength_1 : decode cX8_leadLength 1 = .ok (.invokevirtual 168, 3) := by decide +kernel
theorem dX8_leadLength_4 : decode cX8_leadLength 4 = .ok (.ireturn, 1) := by decide +kernel
theorem dX8_setCellLimit_0 : decode cX8_setCellLimit 0 = .ok (.iload_n 1, 1) := by decide +kernel
theorem dX8_setCellLimit_1 : decode cX8_setCellLimit 1 = .ok (.iconst 1, 1) := by decide +kernel
theorem dX8_setCellLimit_2 : decode cX8_setCellLimit 2 = .ok (.bipush 49, 2) := by decide +kernel
theorem dX8_setCellLimit_4 : decode cX8_setCellLimit 4 = .ok (.invokestatic 65, 3) := by decide +kernel
theorem dX8_setCellLimit_7 : decode cX8_setCellLimit 7 = .ok (.ifCond .eq 12, 3) := by decide +kernel
theorem dX8_setCellLimit_10 : decode cX8_setCellLimit 10 = .ok (.aload_n 0, 1) := by decide +kernel
theorem dX8_setCellLimit_11 : decode cX8_setCellLimit 11 = .ok (.iconst 2, 1) := by decide +kernel
theorem dX8_setCellLimit_12 : decode cX8_setCellLimit 12 = .ok (.iload_n 1, 1) := by decide +kernel
theorem dX8_setCellLimit_13 : decode cX8_setCellLimit 13 = .ok (.invokevirtual 99, 3) := by decide +kernel
theorem dX8_setCellLimit_16 : decode cX8_setCellLimit 16 = .ok (.goto 4, 3) := by decide +kernel
theorem dX8_setCellLimit_19 : decode cX8_setCellLimit 19 = .ok (.iconst (-1), 1) := by decide +kernel
theorem dX8_setCellLimit_20 : decode cX8_setCellLimit 20 = .ok (.ireturn, 1) := by decide +kernel
theorem dX8_setCornerLimit_0 : decode cX8_setCornerLimit 0 = .ok (.iload_n 1, 1) := by decide +kernel
theorem dX8_setCornerLimit_1 : decode cX8_setCornerLimit 1 = .ok (.iconst 0, 1) := by decide +kernel
theorem dX8_setCornerLimit_2 : decode cX8_setCornerLimit 2 = .ok (.bipush 8, 2) := by decide +kernel
theorem dX8_setCornerLimit_4 : decode cX8_setCornerLimit 4 = .ok (.invokestatic 65, 3) := by decide +kernel
theorem dX8_setCornerLimit_7 : decode cX8_setCornerLimit 7 = .ok (.ifCond .eq 12, 3) := by decide +kernel
theorem dX8_setCornerLimit_10 : decode cX8_setCornerLimit 10 = .ok (.aload_n 0, 1) := by decide +kernel
theorem dX8_setCornerLimit_11 : decode cX8_setCornerLimit 11 = .ok (.iconst 3, 1) := by decide +kernel
theorem dX8_setCornerLimit_12 : decode cX8_setCornerLimit 12 = .ok (.iload_n 1, 1) := by decide +kernel
theorem dX8_setCornerLimit_13 : decode cX8_setCornerLimit 13 = .ok (.invokevirtual 99, 3) := by decide +kernel
theorem dX8_setCornerLimit_16 : decode cX8_setCornerLimit 16 = .ok (.goto 4, 3) := by decide +kernel
theorem dX8_setCornerLimit_19 : decode cX8_setCornerLimit 19 = .ok (.iconst (-1), 1) := by decide +kernel
theorem dX8_setCornerLimit_20 : decode cX8_setCornerLimit 20 = .ok (.ireturn, 1) := by decide +kernel
theorem dX8_box_0 : decode cX8_box 0 = .ok (.iload_n 0, 1) := by decide +kernel
theorem dX8_box_1 : decode cX8_box 1 = .ok (.bipush 7, 2) := by decide +kernel
theorem dX8_box_3 : decode cX8_box 3 = .ok (.imul, 1) := by decide +kernel
theorem dX8_box_4 : decode cX8_box 4 = .ok (.iload_n 1, 1) := by decide +kernel
theorem dX8_box_5 : decode cX8_box 5 = .ok (.iadd, 1) := by decide +kernel
theorem dX8_box_6 : decode cX8_box 6 = .ok (.bipush 7, 2) := by decide +kernel
theorem dX8_box_8 : decode cX8_box 8 = .ok (.imul, 1) := by decide +kernel
theorem dX8_box_9 : decode cX8_box 9 = .ok (.iload_n 2, 1) := by decide +kernel
theorem dX8_box_10 : decode cX8_box 10 = .ok (.iadd, 1) := by decide +kernel
theorem dX8_box_11 : decode cX8_box 11 = .ok (.bipush 7, 2) := by decide +kernel
theorem dX8_box_13 : decode cX8_box 13 = .ok (.imul, 1) := by decide +kernel
theorem dX8_box_14 : decode cX8_box 14 = .ok (.iload_n 3, 1) := by decide +kernel
theorem dX8_box_15 : decode cX8_box 15 = .ok (.iadd, 1) := by decide +kernel
theorem dX8_box_16 : decode cX8_box 16 = .ok (.ireturn, 1) := by decide +kernel
theorem dX8_easyMany_0 : decode cX8_easyMany 0 = .ok (.iconst 0, 1) := by decide +kernel
theorem dX8_easyMany_1 : decode cX8_easyMany 1 = .ok (.istore_n 2, 1) := by decide +kernel
theorem dX8_easyMany_2 : decode cX8_easyMany 2 = .ok (.iload_n 2, 1) := by decide +kernel
theorem dX8_easyMany_3 : decode cX8_easyMany 3 = .ok (.bipush 49, 2) := by decide +kernel
theorem dX8_easyMany_5 : decode cX8_easyMany 5 = .ok (.if_icmp .ge 16, 3) := by decide +kernel
theorem dX8_easyMany_8 : decode cX8_easyMany 8 = .ok (.aload_n 0, 1) := by decide +kernel
theorem dX8_easyMany_9 : decode cX8_easyMany 9 = .ok (.getfield 28, 3) := by decide +kernel
theorem dX8_easyMany_12 : decode cX8_easyMany 12 = .ok (.iload_n 2, 1) := by decide +kernel
theorem dX8_easyMany_13 : decode cX8_easyMany 13 = .ok (.iconst (-1), 1) := by decide +kernel
theorem dX8_easyMany_14 : decode cX8_easyMany 14 = .ok (.iastore, 1) := by decide +kernel
theorem dX8_easyMany_15 : decode cX8_easyMany 15 = .ok (.iinc 2 1, 3) := by decide +kernel
theorem dX8_easyMany_18 : decode cX8_easyMany 18 = .ok (.goto (-16), 3) := by decide +kernel
theorem dX8_easyMany_21 : decode cX8_easyMany 21 = .ok (.iconst 0, 1) := by decide +kernel
theorem dX8_easyMany_22 : decode cX8_easyMany 22 = .ok (.istore_n 2, 1) := by decide +kernel
theorem dX8_easyMany_23 : decode cX8_easyMany 23 = .ok (.iconst 1, 1) := by decide +kernel
theorem dX8_easyMany_24 : decode cX8_easyMany 24 = .ok (.istore_n 3, 1) := by decide +kernel
theorem dX8_easyMany_25 : decode cX8_easyMany 25 = .ok (.iconst 0, 1) := by decide +kernel
theorem dX8_easyMany_26 : decode cX8_easyMany 26 = .ok (.istore 4, 2) := by decide +kernel
theorem dX8_easyMany_28 : decode cX8_easyMany 28 = .ok (.iload 4, 2) := by decide +kernel
theorem dX8_easyMany_30 : decode cX8_easyMany 30 = .ok (.bipush 49, 2) := by decide +kernel
theorem dX8_easyMany_32 : decode cX8_easyMany 32 = .ok (.if_icmp .ge 112, 3) := by decide +kernel
theorem dX8_easyMany_35 : decode cX8_easyMany 35 = .ok (.iload_n 3, 1) := by decide +kernel
theorem dX8_easyMany_36 : decode cX8_easyMany 36 = .ok (.ifCond .eq 108, 3) := by decide +kernel
theorem dX8_easyMany_39 : decode cX8_easyMany 39 = .ok (.iload 4, 2) := by decide +kernel
theorem dX8_easyMany_41 : decode cX8_easyMany 41 = .ok (.bipush 7, 2) := by decide +kernel
theorem dX8_easyMany_43 : decode cX8_easyMany 43 = .ok (.idiv, 1) := by decide +kernel
theorem dX8_easyMany_44 : decode cX8_easyMany 44 = .ok (.aload_n 0, 1) := by decide +kernel
theorem dX8_easyMany_45 : decode cX8_easyMany 45 = .ok (.getfield 125, 3) := by decide +kernel
theorem dX8_easyMany_48 : decode cX8_easyMany 48 = .ok (.aload_n 0, 1) := by decide +kernel
theorem dX8_easyMany_49 : decode cX8_easyMany 49 = .ok (.getfield 119, 3) := by decide +kernel
theorem dX8_easyMany_52 : decode cX8_easyMany 52 = .ok (.invokestatic 65, 3) := by decide +kernel
theorem dX8_easyMany_55 : decode cX8_easyMany 55 = .ok (.ifCond .eq 47, 3) := by decide +kernel
theorem dX8_easyMany_58 : decode cX8_easyMany 58 = .ok (.iload 4, 2) := by decide +kernel
theorem dX8_easyMany_60 : decode cX8_easyMany 60 = .ok (.bipush 7, 2) := by decide +kernel
theorem dX8_easyMany_62 : decode cX8_easyMany 62 = .ok (.irem, 1) := by decide +kernel
theorem dX8_easyMany_63 : decode cX8_easyMany 63 = .ok (.aload_n 0, 1) := by decide +kernel
theorem dX8_easyMany_64 : decode cX8_easyMany 64 = .ok (.getfield 122, 3) := by decide +kernel
theorem dX8_easyMany_67 : decode cX8_easyMany 67 = .ok (.aload_n 0, 1) := by decide +kernel
theorem dX8_easyMany_68 : decode cX8_easyMany 68 = .ok (.getfield 116, 3) := by decide +kernel
theorem dX8_easyMany_71 : decode cX8_easyMany 71 = .ok (.invokestatic 65, 3) := by decide +kernel
theorem dX8_easyMany_74 : decode cX8_easyMany 74 = .ok (.ifCond .eq 28, 3) := by decide +kernel
theorem dX8_easyMany_77 : decode cX8_easyMany 77 = .ok (.aload_n 0, 1) := by decide +kernel
theorem dX8_easyMany_78 : decode cX8_easyMany 78 = .ok (.getfield 25, 3) := by decide +kernel
theorem dX8_easyMany_81 : decode cX8_easyMany 81 = .ok (.iload 4, 2) := by decide +kernel
theorem dX8_easyMany_83 : decode cX8_easyMany 83 = .ok (.iaload, 1) := by decide +kernel
theorem dX8_easyMany_84 : decode cX8_easyMany 84 = .ok (.iload_n 1, 1) := by decide +kernel
theorem dX8_easyMany_85 : decode cX8_easyMany 85 = .ok (.if_icmp .ne 17, 3) := by decide +kernel
theorem dX8_easyMany_88 : decode cX8_easyMany 88 = .ok (.aload_n 0, 1) := by decide +kernel
theorem dX8_easyMany_89 : decode cX8_easyMany 89 = .ok (.getfield 28, 3) := by decide +kernel
theorem dX8_easyMany_92 : decode cX8_easyMany 92 = .ok (.iload 4, 2) := by decide +kernel
theorem dX8_easyMany_94 : decode cX8_easyMany 94 = .ok (.iaload, 1) := by decide +kernel
theorem dX8_easyMany_95 : decode cX8_easyMany 95 = .ok (.ifCond .ge 7, 3) := by decide +kernel
theorem dX8_easyMany_98 : decode cX8_easyMany 98 = .ok (.iconst 1, 1) := by decide +kernel
theorem dX8_easyMany_99 : decode cX8_easyMany 99 = .ok (.goto 4, 3) := by decide +kernel
theorem dX8_easyMany_102 : decode cX8_easyMany 102 = .ok (.iconst 0, 1) := by decide +kernel
theorem dX8_easyMany_103 : decode cX8_easyMany 103 = .ok (.istore 5, 2) := by decide +kernel
theorem dX8_easyMany_105 : decode cX8_easyMany 105 = .ok (.iload 5, 2) := by decide +kernel
theorem dX8_easyMany_107 : decode cX8_easyMany 107 = .ok (.ifCond .eq 31, 3) := by decide +kernel
theorem dX8_easyMany_110 : decode cX8_easyMany 110 = .ok (.aload_n 0, 1) := by decide +kernel
theorem dX8_easyMany_111 : decode cX8_easyMany 111 = .ok (.aload_n 0, 1) := by decide +kernel
theorem dX8_easyMany_112 : decode cX8_easyMany 112 = .ok (.getfield 28, 3) := by decide +kernel
theorem dX8_easyMany_115 : decode cX8_easyMany 115 = .ok (.iload 4, 2) := by decide +kernel
theorem dX8_easyMany_117 : decode cX8_easyMany 117 = .ok (.iload_n 2, 1) := by decide +kernel
theorem dX8_easyMany_118 : decode cX8_easyMany 118 = .ok (.invokevirtual 134, 3) := by decide +kernel
theorem dX8_easyMany_121 : decode cX8_easyMany 121 = .ok (.istore 6, 2) := by decide +kernel
theorem dX8_easyMany_123 : decode cX8_easyMany 123 = .ok (.aload_n 0, 1) := by decide +kernel
theorem dX8_easyMany_124 : decode cX8_easyMany 124 = .ok (.aload_n 0, 1) := by decide +kernel
theorem dX8_easyMany_125 : decode cX8_easyMany 125 = .ok (.getfield 28, 3) := by decide +kernel
theorem dX8_easyMany_128 : decode cX8_easyMany 128 = .ok (.iload_n 2, 1) := by decide +kernel
theorem dX8_easyMany_129 : decode cX8_easyMany 129 = .ok (.iload 6, 2) := by decide +kernel
theorem dX8_easyMany_131 : decode cX8_easyMany 131 = .ok (.invokevirtual 153, 3) := by decide +kernel
theorem dX8_easyMany_134 : decode cX8_easyMany 134 = .ok (.istore_n 3, 1) := by decide +kernel
theorem dX8_easyMany_135 : decode cX8_easyMany 135 = .ok (.iinc 2 1, 3) := by decide +kernel
theorem dX8_easyMany_138 : decode cX8_easyMany 138 = .ok (.iinc 4 1, 3) := by decide +kernel
theorem dX8_easyMany_141 : decode cX8_easyMany 141 = .ok (.goto (-113), 3) := by decide +kernel
theorem dX8_easyMany_144 : decode cX8_easyMany 144 = .ok (.iload_n 3, 1) := by decide +kernel
theorem dX8_easyMany_145 : decode cX8_easyMany 145 = .ok (.ifCond .eq 7, 3) := by decide +kernel
theorem dX8_easyMany_148 : decode cX8_easyMany 148 = .ok (.iload_n 2, 1) := by decide +kernel
theorem dX8_easyMany_149 : decode cX8_easyMany 149 = .ok (.goto 4, 3) := by decide +kernel
theorem dX8_easyMany_152 : decode cX8_easyMany 152 = .ok (.iconst (-1), 1) := by decide +kernel
theorem dX8_easyMany_153 : decode cX8_easyMany 153 = .ok (.ireturn, 1) := by decide +kernel
theorem dX8_apartBelow_0 : decode cX8_apartBelow 0 = .ok (.iconst 0, 1) := by decide +kernel
theorem dX8_apartBelow_1 : decode cX8_apartBelow 1 = .ok (.istore 5, 2) := by decide +kernel
theorem dX8_apartBelow_3 : decode cX8_apartBelow 3 = .ok (.iload_n 3, 1) := by decide +kernel
theorem dX8_apartBelow_4 : decode cX8_apartBelow 4 = .ok (.istore 6, 2) := by decide +kernel
theorem dX8_apartBelow_6 : decode cX8_apartBelow 6 = .ok (.iload 6, 2) := by decide +kernel
theorem dX8_apartBelow_8 : decode cX8_apartBelow 8 = .ok (.iload 4, 2) := by decide +kernel
theorem dX8_apartBelow_10 : decode cX8_apartBelow 10 = .ok (.if_icmp .gt 50, 3) := by decide +kernel
theorem dX8_apartBelow_13 : decode cX8_apartBelow 13 = .ok (.iload 5, 2) := by decide +kernel
theorem dX8_apartBelow_15 : decode cX8_apartBelow 15 = .ok (.aload_n 0, 1) := by decide +kernel
theorem dX8_apartBelow_16 : decode cX8_apartBelow 16 = .ok (.getfield 25, 3) := by decide +kernel
theorem dX8_apartBelow_19 : decode cX8_apartBelow 19 = .ok (.bipush 7, 2) := by decide +kernel
theorem dX8_apartBelow_21 : decode cX8_apartBelow 21 = .ok (.iload_n 2, 1) := by decide +kernel
theorem dX8_apartBelow_22 : decode cX8_apartBelow 22 = .ok (.imul, 1) := by decide +kernel
theorem dX8_apartBelow_23 : decode cX8_apartBelow 23 = .ok (.iload 6, 2) := by decide +kernel
theorem dX8_apartBelow_25 : decode cX8_apartBelow 25 = .ok (.iadd, 1) := by decide +kernel
theorem dX8_apartBelow_26 : decode cX8_apartBelow 26 = .ok (.iaload, 1) := by decide +kernel
theorem dX8_apartBelow_27 : decode cX8_apartBelow 27 = .ok (.iload_n 1, 1) := by decide +kernel
theorem dX8_apartBelow_28 : decode cX8_apartBelow 28 = .ok (.if_icmp .ne 22, 3) := by decide +kernel
theorem dX8_apartBelow_31 : decode cX8_apartBelow 31 = .ok (.aload_n 0, 1) := by decide +kernel
theorem dX8_apartBelow_32 : decode cX8_apartBelow 32 = .ok (.bipush 7, 2) := by decide +kernel
theorem dX8_apartBelow_34 : decode cX8_apartBelow 34 = .ok (.iload_n 2, 1) := by decide +kernel
theorem dX8_apartBelow_35 : decode cX8_apartBelow 35 = .ok (.imul, 1) := by decide +kernel
theorem dX8_apartBelow_36 : decode cX8_apartBelow 36 = .ok (.iload 6, 2) := by decide +kernel
theorem dX8_apartBelow_38 : decode cX8_apartBelow 38 = .ok (.iadd, 1) := by decide +kernel
theorem dX8_apartBelow_39 : decode cX8_apartBelow 39 = .ok (.iconst 1, 1) := by decide +kernel
theorem dX8_apartBelow_40 : decode cX8_apartBelow 40 = .ok (.invokevirtual 128, 3) := by decide +kernel
theorem dX8_apartBelow_43 : decode cX8_apartBelow 43 = .ok (.ifCond .eq 7, 3) := by decide +kernel
theorem dX8_apartBelow_46 : decode cX8_apartBelow 46 = .ok (.iconst 1, 1) := by decide +kernel
theorem dX8_apartBelow_47 : decode cX8_apartBelow 47 = .ok (.goto 4, 3) := by decide +kernel
theorem dX8_apartBelow_50 : decode cX8_apartBelow 50 = .ok (.iconst 0, 1) := by decide +kernel
theorem dX8_apartBelow_51 : decode cX8_apartBelow 51 = .ok (.iadd, 1) := by decide +kernel
theorem dX8_apartBelow_52 : decode cX8_apartBelow 52 = .ok (.istore 5, 2) := by decide +kernel
theorem dX8_apartBelow_54 : decode cX8_apartBelow 54 = .ok (.iinc 6 1, 3) := by decide +kernel
theorem dX8_apartBelow_57 : decode cX8_apartBelow 57 = .ok (.goto (-51), 3) := by decide +kernel
theorem dX8_apartBelow_60 : decode cX8_apartBelow 60 = .ok (.iload 5, 2) := by decide +kernel
theorem dX8_apartBelow_62 : decode cX8_apartBelow 62 = .ok (.ireturn, 1) := by decide +kernel
theorem dX8_apartRight_0 : decode cX8_apartRight 0 = .ok (.iconst 0, 1) := by decide +kernel
theorem dX8_apartRight_1 : decode cX8_apartRight 1 = .ok (.istore 5, 2) := by decide +kernel
theorem dX8_apartRight_3 : decode cX8_apartRight 3 = .ok (.iload_n 3, 1) := by decide +kernel
theorem dX8_apartRight_4 : decode cX8_apartRight 4 = .ok (.istore 6, 2) := by decide +kernel
theorem dX8_apartRight_6 : decode cX8_apartRight 6 = .ok (.iload 6, 2) := by decide +kernel
theorem dX8_apartRight_8 : decode cX8_apartRight 8 = .ok (.iload 4, 2) := by decide +kernel
theorem dX8_apartRight_10 : decode cX8_apartRight 10 = .ok (.if_icmp .gt 50, 3) := by decide +kernel
theorem dX8_apartRight_13 : decode cX8_apartRight 13 = .ok (.iload 5, 2) := by decide +kernel
theorem dX8_apartRight_15 : decode cX8_apartRight 15 = .ok (.aload_n 0, 1) := by decide +kernel
theorem dX8_apartRight_16 : decode cX8_apartRight 16 = .ok (.getfield 25, 3) := by decide +kernel
theorem dX8_apartRight_19 : decode cX8_apartRight 19 = .ok (.bipush 7, 2) := by decide +kernel
theorem dX8_apartRight_21 : decode cX8_apartRight 21 = .ok (.iload 6, 2) := by decide +kernel
theorem dX8_apartRight_23 : decode cX8_apartRight 23 = .ok (.imul, 1) := by decide +kernel
theorem dX8_apartRight_24 : decode cX8_apartRight 24 = .ok (.iload_n 2, 1) := by decide +kernel
theorem dX8_apartRight_25 : decode cX8_apartRight 25 = .ok (.iadd, 1) := by decide +kernel
theorem dX8_apartRight_26 : decode cX8_apartRight 26 = .ok (.iaload, 1) := by decide +kernel
theorem dX8_apartRight_27 : decode cX8_apartRight 27 = .ok (.iload_n 1, 1) := by decide +kernel
theorem dX8_apartRight_28 : decode cX8_apartRight 28 = .ok (.if_icmp .ne 22, 3) := by decide +kernel
theorem dX8_apartRight_31 : decode cX8_apartRight 31 = .ok (.aload_n 0, 1) := by decide +kernel
theorem dX8_apartRight_32 : decode cX8_apartRight 32 = .ok (.bipush 7, 2) := by decide +kernel
theorem dX8_apartRight_34 : decode cX8_apartRight 34 = .ok (.iload 6, 2) := by decide +kernel
theorem dX8_apartRight_36 : decode cX8_apartRight 36 = .ok (.imul, 1) := by decide +kernel
theorem dX8_apartRight_37 : decode cX8_apartRight 37 = .ok (.iload_n 2, 1) := by decide +kernel
theorem dX8_apartRight_38 : decode cX8_apartRight 38 = .ok (.iadd, 1) := by decide +kernel
theorem dX8_apartRight_39 : decode cX8_apartRight 39 = .ok (.iconst 0, 1) := by decide +kernel
theorem dX8_apartRight_40 : decode cX8_apartRight 40 = .ok (.invokevirtual 128, 3) := by decide +kernel
theorem dX8_apartRight_43 : decode cX8_apartRight 43 = .ok (.ifCond .eq 7, 3) := by decide +kernel
theorem dX8_apartRight_46 : decode cX8_apartRight 46 = .ok (.iconst 1, 1) := by decide +kernel
theorem dX8_apartRight_47 : decode cX8_apartRight 47 = .ok (.goto 4, 3) := by decide +kernel
theorem dX8_apartRight_50 : decode cX8_apartRight 50 = .ok (.iconst 0, 1) := by decide +kernel
theorem dX8_apartRight_51 : decode cX8_apartRight 51 = .ok (.iadd, 1) := by decide +kernel
theorem dX8_apartRight_52 : decode cX8_apartRight 52 = .ok (.istore 5, 2) := by decide +kernel
theorem dX8_apartRight_54 : decode cX8_apartRight 54 = .ok (.iinc 6 1, 3) := by decide +kernel
theorem dX8_apartRight_57 : decode cX8_apartRight 57 = .ok (.goto (-51), 3) := by decide +kernel
theorem dX8_apartRight_60 : decode cX8_apartRight 60 = .ok (.iload 5, 2) := by decide +kernel
theorem dX8_apartRight_62 : decode cX8_apartRight 62 = .ok (.ireturn, 1) := by decide +kernel
theorem dX8_tries_0 : decode cX8_tries 0 = .ok (.aload_n 0, 1) := by decide +kernel
theorem dX8_tries_1 : decode cX8_tries 1 = .ok (.getfield 44, 3) := by decide +kernel
theorem dX8_tries_4 : decode cX8_tries 4 = .ok (.iload_n 3, 1) := by decide +kernel
theorem dX8_tries_5 : decode cX8_tries 5 = .ok (.iaload, 1) := by decide +kernel
theorem dX8_tries_6 : decode cX8_tries 6 = .ok (.aload_n 0, 1) := by decide +kernel
theorem dX8_tries_7 : decode cX8_tries 7 = .ok (.getfield 44, 3) := by decide +kernel
theorem dX8_tries_10 : decode cX8_tries 10 = .ok (.iload 4, 2) := by decide +kernel
theorem dX8_tries_12 : decode cX8_tries 12 = .ok (.iaload, 1) := by decide +kernel
theorem dX8_tries_13 : decode cX8_tries 13 = .ok (.iadd, 1) := by decide +kernel
theorem dX8_tries_14 : decode cX8_tries 14 = .ok (.istore 6, 2) := by decide +kernel
theorem dX8_tries_16 : decode cX8_tries 16 = .ok (.aload_n 0, 1) := by decide +kernel
theorem dX8_tries_17 : decode cX8_tries 17 = .ok (.getfield 47, 3) := by decide +kernel
theorem dX8_tries_20 : decode cX8_tries 20 = .ok (.iload_n 3, 1) := by decide +kernel
theorem dX8_tries_21 : decode cX8_tries 21 = .ok (.iaload, 1) := by decide +kernel
theorem dX8_tries_22 : decode cX8_tries 22 = .ok (.aload_n 0, 1) := by decide +kernel
theorem dX8_tries_23 : decode cX8_tries 23 = .ok (.getfield 47, 3) := by decide +kernel
theorem dX8_tries_26 : decode cX8_tries 26 = .ok (.iload 4, 2) := by decide +kernel
theorem dX8_tries_28 : decode cX8_tries 28 = .ok (.iaload, 1) := by decide +kernel
theorem dX8_tries_29 : decode cX8_tries 29 = .ok (.iadd, 1) := by decide +kernel
theorem dX8_tries_30 : decode cX8_tries 30 = .ok (.iload 5, 2) := by decide +kernel
theorem dX8_tries_32 : decode cX8_tries 32 = .ok (.iadd, 1) := by decide +kernel
theorem dX8_tries_33 : decode cX8_tries 33 = .ok (.istore 7, 2) := by decide +kernel
theorem dX8_tries_35 : decode cX8_tries 35 = .ok (.aload_n 0, 1) := by decide +kernel
theorem dX8_tries_36 : decode cX8_tries 36 = .ok (.getfield 50, 3) := by decide +kernel
theorem dX8_tries_39 : decode cX8_tries 39 = .ok (.iload_n 1, 1) := by decide +kernel
theorem dX8_tries_40 : decode cX8_tries 40 = .ok (.iaload, 1) := by decide +kernel
theorem dX8_tries_41 : decode cX8_tries 41 = .ok (.iconst (-1), 1) := by decide +kernel
theorem dX8_tries_42 : decode cX8_tries 42 = .ok (.if_icmp .eq 36, 3) := by decide +kernel
theorem dX8_tries_45 : decode cX8_tries 45 = .ok (.iload 6, 2) := by decide +kernel
theorem dX8_tries_47 : decode cX8_tries 47 = .ok (.aload_n 0, 1) := by decide +kernel
theorem dX8_tries_48 : decode cX8_tries 48 = .ok (.getfield 44, 3) := by decide +kernel
theorem dX8_tries_51 : decode cX8_tries 51 = .ok (.iload_n 1, 1) := by decide +kernel
theorem dX8_tries_52 : decode cX8_tries 52 = .ok (.iaload, 1) := by decide +kernel
theorem dX8_tries_53 : decode cX8_tries 53 = .ok (.if_icmp .lt 25, 3) := by decide +kernel
theorem dX8_tries_56 : decode cX8_tries 56 = .ok (.iload 6, 2) := by decide +kernel
theorem dX8_tries_58 : decode cX8_tries 58 = .ok (.aload_n 0, 1) := by decide +kernel
theorem dX8_tries_59 : decode cX8_tries 59 = .ok (.getfield 44, 3) := by decide +kernel
theorem dX8_tries_62 : decode cX8_tries 62 = .ok (.iload_n 1, 1) := by decide +kernel
theorem dX8_tries_63 : decode cX8_tries 63 = .ok (.iaload, 1) := by decide +kernel
theorem dX8_tries_64 : decode cX8_tries 64 = .ok (.if_icmp .ne 37, 3) := by decide +kernel
theorem dX8_tries_67 : decode cX8_tries 67 = .ok (.iload 7, 2) := by decide +kernel
theorem dX8_tries_69 : decode cX8_tries 69 = .ok (.aload_n 0, 1) := by decide +kernel
theorem dX8_tries_70 : decode cX8_tries 70 = .ok (.getfield 47, 3) := by decide +kernel
theorem dX8_tries_73 : decode cX8_tries 73 = .ok (.iload_n 1, 1) := by decide +kernel
theorem dX8_tries_74 : decode cX8_tries 74 = .ok (.iaload, 1) := by decide +kernel
theorem dX8_tries_75 : decode cX8_tries 75 = .ok (.if_icmp .ge 26, 3) := by decide +kernel
theorem dX8_tries_78 : decode cX8_tries 78 = .ok (.aload_n 0, 1) := by decide +kernel
theorem dX8_tries_79 : decode cX8_tries 79 = .ok (.getfield 44, 3) := by decide +kernel
theorem dX8_tries_82 : decode cX8_tries 82 = .ok (.iload_n 1, 1) := by decide +kernel
theorem dX8_tries_83 : decode cX8_tries 83 = .ok (.iload 6, 2) := by decide +kernel
theorem dX8_tries_85 : decode cX8_tries 85 = .ok (.iastore, 1) := by decide +kernel
theorem dX8_tries_86 : decode cX8_tries 86 = .ok (.aload_n 0, 1) := by decide +kernel
theorem dX8_tries_87 : decode cX8_tries 87 = .ok (.getfield 47, 3) := by decide +kernel
theorem dX8_tries_90 : decode cX8_tries 90 = .ok (.iload_n 1, 1) := by decide +kernel
theorem dX8_tries_91 : decode cX8_tries 91 = .ok (.iload 7, 2) := by decide +kernel
theorem dX8_tries_93 : decode cX8_tries 93 = .ok (.iastore, 1) := by decide +kernel
theorem dX8_tries_94 : decode cX8_tries 94 = .ok (.aload_n 0, 1) := by decide +kernel
theorem dX8_tries_95 : decode cX8_tries 95 = .ok (.getfield 50, 3) := by decide +kernel
theorem dX8_tries_98 : decode cX8_tries 98 = .ok (.iload_n 1, 1) := by decide +kernel
theorem dX8_tries_99 : decode cX8_tries 99 = .ok (.iload_n 2, 1) := by decide +kernel
theorem dX8_tries_100 : decode cX8_tries 100 = .ok (.iastore, 1) := by decide +kernel
theorem dX8_tries_101 : decode cX8_tries 101 = .ok (.return_, 1) := by decide +kernel
theorem dX8_layBox_0 : decode cX8_layBox 0 = .ok (.aload_n 0, 1) := by decide +kernel
theorem dX8_layBox_1 : decode cX8_layBox 1 = .ok (.getfield 125, 3) := by decide +kernel
theorem dX8_layBox_4 : decode cX8_layBox 4 = .ok (.istore_n 2, 1) := by decide +kernel
theorem dX8_layBox_5 : decode cX8_layBox 5 = .ok (.aload_n 0, 1) := by decide +kernel
theorem dX8_layBox_6 : decode cX8_layBox 6 = .ok (.getfield 119, 3) := by decide +kernel
theorem dX8_layBox_9 : decode cX8_layBox 9 = .ok (.istore_n 3, 1) := by decide +kernel
theorem dX8_layBox_10 : decode cX8_layBox 10 = .ok (.aload_n 0, 1) := by decide +kernel
theorem dX8_layBox_11 : decode cX8_layBox 11 = .ok (.getfield 122, 3) := by decide +kernel
theorem dX8_layBox_14 : decode cX8_layBox 14 = .ok (.istore 4, 2) := by decide +kernel
theorem dX8_layBox_16 : decode cX8_layBox 16 = .ok (.aload_n 0, 1) := by decide +kernel
theorem dX8_layBox_17 : decode cX8_layBox 17 = .ok (.getfield 116, 3) := by decide +kernel
theorem dX8_layBox_20 : decode cX8_layBox 20 = .ok (.istore 5, 2) := by decide +kernel
theorem dX8_layBox_22 : decode cX8_layBox 22 = .ok (.iload_n 2, 1) := by decide +kernel
theorem dX8_layBox_23 : decode cX8_layBox 23 = .ok (.iload_n 3, 1) := by decide +kernel
theorem dX8_layBox_24 : decode cX8_layBox 24 = .ok (.iload 4, 2) := by decide +kernel
theorem dX8_layBox_26 : decode cX8_layBox 26 = .ok (.iload 5, 2) := by decide +kernel
theorem dX8_layBox_28 : decode cX8_layBox 28 = .ok (.invokestatic 171, 3) := by decide +kernel
theorem dX8_layBox_31 : decode cX8_layBox 31 = .ok (.istore 6, 2) := by decide +kernel
theorem dX8_layBox_33 : decode cX8_layBox 33 = .ok (.aload_n 0, 1) := by decide +kernel
theorem dX8_layBox_34 : decode cX8_layBox 34 = .ok (.iload_n 1, 1) := by decide +kernel
theorem dX8_layBox_35 : decode cX8_layBox 35 = .ok (.invokevirtual 175, 3) := by decide +kernel
theorem dX8_layBox_38 : decode cX8_layBox 38 = .ok (.istore 7, 2) := by decide +kernel
theorem dX8_layBox_40 : decode cX8_layBox 40 = .ok (.aload_n 0, 1) := by decide +kernel
theorem dX8_layBox_41 : decode cX8_layBox 41 = .ok (.getfield 50, 3) := by decide +kernel
theorem dX8_layBox_44 : decode cX8_layBox 44 = .ok (.iload 6, 2) := by decide +kernel
theorem dX8_layBox_46 : decode cX8_layBox 46 = .ok (.iconst (-1), 1) := by decide +kernel
theorem dX8_layBox_47 : decode cX8_layBox 47 = .ok (.iastore, 1) := by decide +kernel
theorem dX8_layBox_48 : decode cX8_layBox 48 = .ok (.aload_n 0, 1) := by decide +kernel
theorem dX8_layBox_49 : decode cX8_layBox 49 = .ok (.getfield 44, 3) := by decide +kernel
theorem dX8_layBox_52 : decode cX8_layBox 52 = .ok (.iload 6, 2) := by decide +kernel
theorem dX8_layBox_54 : decode cX8_layBox 54 = .ok (.iload 7, 2) := by decide +kernel
theorem dX8_layBox_56 : decode cX8_layBox 56 = .ok (.iastore, 1) := by decide +kernel
theorem dX8_layBox_57 : decode cX8_layBox 57 = .ok (.aload_n 0, 1) := by decide +kernel
theorem dX8_layBox_58 : decode cX8_layBox 58 = .ok (.getfield 47, 3) := by decide +kernel
theorem dX8_layBox_61 : decode cX8_layBox 61 = .ok (.iload 6, 2) := by decide +kernel
theorem dX8_layBox_63 : decode cX8_layBox 63 = .ok (.iconst 0, 1) := by decide +kernel
theorem dX8_layBox_64 : decode cX8_layBox 64 = .ok (.iastore, 1) := by decide +kernel
theorem dX8_layBox_65 : decode cX8_layBox 65 = .ok (.iload 7, 2) := by decide +kernel
theorem dX8_layBox_67 : decode cX8_layBox 67 = .ok (.iconst (-1), 1) := by decide +kernel
theorem dX8_layBox_68 : decode cX8_layBox 68 = .ok (.if_icmp .eq 4, 3) := by decide +kernel
theorem dX8_layBox_71 : decode cX8_layBox 71 = .ok (.return_, 1) := by decide +kernel
theorem dX8_layBox_72 : decode cX8_layBox 72 = .ok (.iload_n 2, 1) := by decide +kernel
theorem dX8_layBox_73 : decode cX8_layBox 73 = .ok (.istore 8, 2) := by decide +kernel
theorem dX8_layBox_75 : decode cX8_layBox 75 = .ok (.iload 8, 2) := by decide +kernel
theorem dX8_layBox_77 : decode cX8_layBox 77 = .ok (.iload_n 3, 1) := by decide +kernel
theorem dX8_layBox_78 : decode cX8_layBox 78 = .ok (.if_icmp .ge 58, 3) := by decide +kernel
theorem dX8_layBox_81 : decode cX8_layBox 81 = .ok (.iload_n 2, 1) := by decide +kernel
theorem dX8_layBox_82 : decode cX8_layBox 82 = .ok (.iload 8, 2) := by decide +kernel
theorem dX8_layBox_84 : decode cX8_layBox 84 = .ok (.iload 4, 2) := by decide +kernel
theorem dX8_layBox_86 : decode cX8_layBox 86 = .ok (.iload 5, 2) := by decide +kernel
theorem dX8_layBox_88 : decode cX8_layBox 88 = .ok (.invokestatic 171, 3) := by decide +kernel
theorem dX8_layBox_91 : decode cX8_layBox 91 = .ok (.istore 9, 2) := by decide +kernel
theorem dX8_layBox_93 : decode cX8_layBox 93 = .ok (.iload 8, 2) := by decide +kernel
theorem dX8_layBox_95 : decode cX8_layBox 95 = .ok (.iconst 1, 1) := by decide +kernel
theorem dX8_layBox_96 : decode cX8_layBox 96 = .ok (.iadd, 1) := by decide +kernel
theorem dX8_layBox_97 : decode cX8_layBox 97 = .ok (.iload_n 3, 1) := by decide +kernel
theorem dX8_layBox_98 : decode cX8_layBox 98 = .ok (.iload 4, 2) := by decide +kernel
theorem dX8_layBox_100 : decode cX8_layBox 100 = .ok (.iload 5, 2) := by decide +kernel
theorem dX8_layBox_102 : decode cX8_layBox 102 = .ok (.invokestatic 171, 3) := by decide +kernel
theorem dX8_layBox_105 : decode cX8_layBox 105 = .ok (.istore 10, 2) := by decide +kernel
theorem dX8_layBox_107 : decode cX8_layBox 107 = .ok (.aload_n 0, 1) := by decide +kernel
theorem dX8_layBox_108 : decode cX8_layBox 108 = .ok (.iload 6, 2) := by decide +kernel
theorem dX8_layBox_110 : decode cX8_layBox 110 = .ok (.iload 8, 2) := by decide +kernel
theorem dX8_layBox_112 : decode cX8_layBox 112 = .ok (.iload 9, 2) := by decide +kernel
theorem dX8_layBox_114 : decode cX8_layBox 114 = .ok (.iload 10, 2) := by decide +kernel
theorem dX8_layBox_116 : decode cX8_layBox 116 = .ok (.aload_n 0, 1) := by decide +kernel
theorem dX8_layBox_117 : decode cX8_layBox 117 = .ok (.iload_n 1, 1) := by decide +kernel
theorem dX8_layBox_118 : decode cX8_layBox 118 = .ok (.iload 8, 2) := by decide +kernel
theorem dX8_layBox_120 : decode cX8_layBox 120 = .ok (.iload 4, 2) := by decide +kernel
theorem dX8_layBox_122 : decode cX8_layBox 122 = .ok (.iload 5, 2) := by decide +kernel
theorem dX8_layBox_124 : decode cX8_layBox 124 = .ok (.invokevirtual 178, 3) := by decide +kernel
theorem dX8_layBox_127 : decode cX8_layBox 127 = .ok (.invokevirtual 181, 3) := by decide +kernel
theorem dX8_layBox_130 : decode cX8_layBox 130 = .ok (.iinc 8 1, 3) := by decide +kernel
theorem dX8_layBox_133 : decode cX8_layBox 133 = .ok (.goto (-58), 3) := by decide +kernel
theorem dX8_layBox_136 : decode cX8_layBox 136 = .ok (.iload 4, 2) := by decide +kernel
theorem dX8_layBox_138 : decode cX8_layBox 138 = .ok (.istore 8, 2) := by decide +kernel
theorem dX8_layBox_140 : decode cX8_layBox 140 = .ok (.iload 8, 2) := by decide +kernel
theorem dX8_layBox_142 : decode cX8_layBox 142 = .ok (.iload 5, 2) := by decide +kernel
theorem dX8_layBox_144 : decode cX8_layBox 144 = .ok (.if_icmp .ge 57, 3) := by decide +kernel
theorem dX8_layBox_147 : decode cX8_layBox 147 = .ok (.iload_n 2, 1) := by decide +kernel
theorem dX8_layBox_148 : decode cX8_layBox 148 = .ok (.iload_n 3, 1) := by decide +kernel
theorem dX8_layBox_149 : decode cX8_layBox 149 = .ok (.iload 4, 2) := by decide +kernel
theorem dX8_layBox_151 : decode cX8_layBox 151 = .ok (.iload 8, 2) := by decide +kernel
theorem dX8_layBox_153 : decode cX8_layBox 153 = .ok (.invokestatic 171, 3) := by decide +kernel
theorem dX8_layBox_156 : decode cX8_layBox 156 = .ok (.istore 9, 2) := by decide +kernel
theorem dX8_layBox_158 : decode cX8_layBox 158 = .ok (.iload_n 2, 1) := by decide +kernel
theorem dX8_layBox_159 : decode cX8_layBox 159 = .ok (.iload_n 3, 1) := by decide +kernel
theorem dX8_layBox_160 : decode cX8_layBox 160 = .ok (.iload 8, 2) := by decide +kernel
theorem dX8_layBox_162 : decode cX8_layBox 162 = .ok (.iconst 1, 1) := by decide +kernel
theorem dX8_layBox_163 : decode cX8_layBox 163 = .ok (.iadd, 1) := by decide +kernel
theorem dX8_layBox_164 : decode cX8_layBox 164 = .ok (.iload 5, 2) := by decide +kernel
theorem dX8_layBox_166 : decode cX8_layBox 166 = .ok (.invokestatic 171, 3) := by decide +kernel
theorem dX8_layBox_169 : decode cX8_layBox 169 = .ok (.istore 10, 2) := by decide +kernel
theorem dX8_layBox_171 : decode cX8_layBox 171 = .ok (.aload_n 0, 1) := by decide +kernel
theorem dX8_layBox_172 : decode cX8_layBox 172 = .ok (.iload 6, 2) := by decide +kernel
theorem dX8_layBox_174 : decode cX8_layBox 174 = .ok (.bipush 7, 2) := by decide +kernel
theorem dX8_layBox_176 : decode cX8_layBox 176 = .ok (.iload 8, 2) := by decide +kernel
theorem dX8_layBox_178 : decode cX8_layBox 178 = .ok (.iadd, 1) := by decide +kernel
theorem dX8_layBox_179 : decode cX8_layBox 179 = .ok (.iload 9, 2) := by decide +kernel
theorem dX8_layBox_181 : decode cX8_layBox 181 = .ok (.iload 10, 2) := by decide +kernel
theorem dX8_layBox_183 : decode cX8_layBox 183 = .ok (.aload_n 0, 1) := by decide +kernel
theorem dX8_layBox_184 : decode cX8_layBox 184 = .ok (.iload_n 1, 1) := by decide +kernel
theorem dX8_layBox_185 : decode cX8_layBox 185 = .ok (.iload 8, 2) := by decide +kernel
theorem dX8_layBox_187 : decode cX8_layBox 187 = .ok (.iload_n 2, 1) := by decide +kernel
theorem dX8_layBox_188 : decode cX8_layBox 188 = .ok (.iload_n 3, 1) := by decide +kernel
theorem dX8_layBox_189 : decode cX8_layBox 189 = .ok (.invokevirtual 185, 3) := by decide +kernel
theorem dX8_layBox_192 : decode cX8_layBox 192 = .ok (.invokevirtual 181, 3) := by decide +kernel
theorem dX8_layBox_195 : decode cX8_layBox 195 = .ok (.iinc 8 1, 3) := by decide +kernel
theorem dX8_layBox_198 : decode cX8_layBox 198 = .ok (.goto (-58), 3) := by decide +kernel
theorem dX8_layBox_201 : decode cX8_layBox 201 = .ok (.return_, 1) := by decide +kernel
theorem dX8_layPlan_0 : decode cX8_layPlan 0 = .ok (.bipush 7, 2) := by decide +kernel
theorem dX8_layPlan_2 : decode cX8_layPlan 2 = .ok (.istore_n 2, 1) := by decide +kernel
theorem dX8_layPlan_3 : decode cX8_layPlan 3 = .ok (.iconst 0, 1) := by decide +kernel
theorem dX8_layPlan_4 : decode cX8_layPlan 4 = .ok (.istore_n 3, 1) := by decide +kernel
theorem dX8_layPlan_5 : decode cX8_layPlan 5 = .ok (.bipush 7, 2) := by decide +kernel
theorem dX8_layPlan_7 : decode cX8_layPlan 7 = .ok (.istore 4, 2) := by decide +kernel
theorem dX8_layPlan_9 : decode cX8_layPlan 9 = .ok (.iconst 0, 1) := by decide +kernel
theorem dX8_layPlan_10 : decode cX8_layPlan 10 = .ok (.istore 5, 2) := by decide +kernel
theorem dX8_layPlan_12 : decode cX8_layPlan 12 = .ok (.iconst 0, 1) := by decide +kernel
theorem dX8_layPlan_13 : decode cX8_layPlan 13 = .ok (.istore 6, 2) := by decide +kernel
