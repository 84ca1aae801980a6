theorem dX0_fill_0 : decode cX0_fill 0 = .ok (.aload_n 0, 1) := by decide +kernel
theorem dX0_fill_1 : decode cX0_fill 1 = .ok (.getfield 25, 3) := by decide +kernel
theorem dX0_fill_4 : decode cX0_fill 4 = .ok (.bipush 60, 2) := by decide +kernel
theorem dX0_fill_6 : decode cX0_fill 6 = .ok (.if_icmp .lt 5, 3) := by decide +kernel
theorem dX0_fill_9 : decode cX0_fill 9 = .ok (.iconst (-1), 1) := by decide +kernel
theorem dX0_fill_10 : decode cX0_fill 10 = .ok (.ireturn, 1) := by decide +kernel
theorem dX0_fill_11 : decode cX0_fill 11 = .ok (.aload_n 0, 1) := by decide +kernel
theorem dX0_fill_12 : decode cX0_fill 12 = .ok (.getfield 15, 3) := by decide +kernel
theorem dX0_fill_15 : decode cX0_fill 15 = .ok (.aload_n 0, 1) := by decide +kernel
theorem dX0_fill_16 : decode cX0_fill 16 = .ok (.getfield 25, 3) := by decide +kernel
theorem dX0_fill_19 : decode cX0_fill 19 = .ok (.iload_n 1, 1) := by decide +kernel
theorem dX0_fill_20 : decode cX0_fill 20 = .ok (.iastore, 1) := by decide +kernel
theorem dX0_fill_21 : decode cX0_fill 21 = .ok (.aload_n 0, 1) := by decide +kernel
theorem dX0_fill_22 : decode cX0_fill 22 = .ok (.getfield 19, 3) := by decide +kernel
theorem dX0_fill_25 : decode cX0_fill 25 = .ok (.aload_n 0, 1) := by decide +kernel
theorem dX0_fill_26 : decode cX0_fill 26 = .ok (.getfield 25, 3) := by decide +kernel
theorem dX0_fill_29 : decode cX0_fill 29 = .ok (.iload_n 2, 1) := by decide +kernel
theorem dX0_fill_30 : decode cX0_fill 30 = .ok (.iastore, 1) := by decide +kernel
theorem dX0_fill_31 : decode cX0_fill 31 = .ok (.aload_n 0, 1) := by decide +kernel
theorem dX0_fill_32 : decode cX0_fill 32 = .ok (.getfield 22, 3) := by decide +kernel
theorem dX0_fill_35 : decode cX0_fill 35 = .ok (.aload_n 0, 1) := by decide +kernel
theorem dX0_fill_36 : decode cX0_fill 36 = .ok (.getfield 25, 3) := by decide +kernel
theorem dX0_fill_39 : decode cX0_fill 39 = .ok (.iload_n 3, 1) := by decide +kernel
theorem dX0_fill_40 : decode cX0_fill 40 = .ok (.iastore, 1) := by decide +kernel
theorem dX0_fill_41 : decode cX0_fill 41 = .ok (.aload_n 0, 1) := by decide +kernel
theorem dX0_fill_42 : decode cX0_fill 42 = .ok (.dup, 1) := by decide +kernel
theorem dX0_fill_43 : decode cX0_fill 43 = .ok (.getfield 25, 3) := by decide +kernel
theorem dX0_fill_46 : decode cX0_fill 46 = .ok (.iconst 1, 1) := by decide +kernel
theorem dX0_fill_47 : decode cX0_fill 47 = .ok (.iadd, 1) := by decide +kernel
theorem dX0_fill_48 : decode cX0_fill 48 = .ok (.putfield 25, 3) := by decide +kernel
theorem dX0_fill_51 : decode cX0_fill 51 = .ok (.aload_n 0, 1) := by decide +kernel
theorem dX0_fill_52 : decode cX0_fill 52 = .ok (.getfield 25, 3) := by decide +kernel
theorem dX0_fill_55 : decode cX0_fill 55 = .ok (.iconst 1, 1) := by decide +kernel
theorem dX0_fill_56 : decode cX0_fill 56 = .ok (.isub, 1) := by decide +kernel
theorem dX0_fill_57 : decode cX0_fill 57 = .ok (.ireturn, 1) := by decide +kernel
theorem dX0_distance_0 : decode cX0_distance 0 = .ok (.iload_n 0, 1) := by decide +kernel
theorem dX0_distance_1 : decode cX0_distance 1 = .ok (.bipush 32, 2) := by decide +kernel
theorem dX0_distance_3 : decode cX0_distance 3 = .ok (.idiv, 1) := by decide +kernel
theorem dX0_distance_4 : decode cX0_distance 4 = .ok (.iload_n 1, 1) := by decide +kernel
theorem dX0_distance_5 : decode cX0_distance 5 = .ok (.bipush 32, 2) := by decide +kernel
theorem dX0_distance_7 : decode cX0_distance 7 = .ok (.idiv, 1) := by decide +kernel
theorem dX0_distance_8 : decode cX0_distance 8 = .ok (.isub, 1) := by decide +kernel
theorem dX0_distance_9 : decode cX0_distance 9 = .ok (.istore_n 2, 1) := by decide +kernel
theorem dX0_distance_10 : decode cX0_distance 10 = .ok (.iload_n 0, 1) := by decide +kernel
theorem dX0_distance_11 : decode cX0_distance 11 = .ok (.iconst 4, 1) := by decide +kernel
theorem dX0_distance_12 : decode cX0_distance 12 = .ok (.idiv, 1) := by decide +kernel
theorem dX0_distance_13 : decode cX0_distance 13 = .ok (.bipush 8, 2) := by decide +kernel
theorem dX0_distance_15 : decode cX0_distance 15 = .ok (.irem, 1) := by decide +kernel
theorem dX0_distance_16 : decode cX0_distance 16 = .ok (.iload_n 1, 1) := by decide +kernel
theorem dX0_distance_17 : decode cX0_distance 17 = .ok (.iconst 4, 1) := by decide +kernel
theorem dX0_distance_18 : decode cX0_distance 18 = .ok (.idiv, 1) := by decide +kernel
theorem dX0_distance_19 : decode cX0_distance 19 = .ok (.bipush 8, 2) := by decide +kernel
theorem dX0_distance_21 : decode cX0_distance 21 = .ok (.irem, 1) := by decide +kernel
theorem dX0_distance_22 : decode cX0_distance 22 = .ok (.isub, 1) := by decide +kernel
theorem dX0_distance_23 : decode cX0_distance 23 = .ok (.istore_n 3, 1) := by decide +kernel
theorem dX0_distance_24 : decode cX0_distance 24 = .ok (.iload_n 0, 1) := by decide +kernel
theorem dX0_distance_25 : decode cX0_distance 25 = .ok (.iconst 4, 1) := by decide +kernel
theorem dX0_distance_26 : decode cX0_distance 26 = .ok (.irem, 1) := by decide +kernel
theorem dX0_distance_27 : decode cX0_distance 27 = .ok (.iload_n 1, 1) := by decide +kernel
theorem dX0_distance_28 : decode cX0_distance 28 = .ok (.iconst 4, 1) := by decide +kernel
theorem dX0_distance_29 : decode cX0_distance 29 = .ok (.irem, 1) := by decide +kernel
theorem dX0_distance_30 : decode cX0_distance 30 = .ok (.isub, 1) := by decide +kernel
theorem dX0_distance_31 : decode cX0_distance 31 = .ok (.istore 4, 2) := by decide +kernel
theorem dX0_distance_33 : decode cX0_distance 33 = .ok (.iload_n 2, 1) := by decide +kernel
theorem dX0_distance_34 : decode cX0_distance 34 = .ok (.invokestatic 55, 3) := by decide +kernel
theorem dX0_distance_37 : decode cX0_distance 37 = .ok (.iload_n 3, 1) := by decide +kernel
theorem dX0_distance_38 : decode cX0_distance 38 = .ok (.invokestatic 55, 3) := by decide +kernel
theorem dX0_distance_41 : decode cX0_distance 41 = .ok (.iadd, 1) := by decide +kernel
theorem dX0_distance_42 : decode cX0_distance 42 = .ok (.iload 4, 2) := by decide +kernel
theorem dX0_distance_44 : decode cX0_distance 44 = .ok (.invokestatic 55, 3) := by decide +kernel
theorem dX0_distance_47 : decode cX0_distance 47 = .ok (.iadd, 1) := by decide +kernel
theorem dX0_distance_48 : decode cX0_distance 48 = .ok (.ireturn, 1) := by decide +kernel
theorem dX1_setPapers_0 : decode cX1_setPapers 0 = .ok (.aload_n 0, 1) := by decide +kernel
theorem dX1_setPapers_1 : decode cX1_setPapers 1 = .ok (.getfield 25, 3) := by decide +kernel
theorem dX1_setPapers_4 : decode cX1_setPapers 4 = .ok (.iconst 0, 1) := by decide +kernel
theorem dX1_setPapers_5 : decode cX1_setPapers 5 = .ok (.iload_n 1, 1) := by decide +kernel
theorem dX1_setPapers_6 : decode cX1_setPapers 6 = .ok (.iastore, 1) := by decide +kernel
theorem dX1_setPapers_7 : decode cX1_setPapers 7 = .ok (.aload_n 0, 1) := by decide +kernel
theorem dX1_setPapers_8 : decode cX1_setPapers 8 = .ok (.getfield 25, 3) := by decide +kernel
theorem dX1_setPapers_11 : decode cX1_setPapers 11 = .ok (.iconst 1, 1) := by decide +kernel
theorem dX1_setPapers_12 : decode cX1_setPapers 12 = .ok (.iload_n 2, 1) := by decide +kernel
theorem dX1_setPapers_13 : decode cX1_setPapers 13 = .ok (.iastore, 1) := by decide +kernel
theorem dX1_setPapers_14 : decode cX1_setPapers 14 = .ok (.aload_n 0, 1) := by decide +kernel
theorem dX1_setPapers_15 : decode cX1_setPapers 15 = .ok (.getfield 25, 3) := by decide +kernel
theorem dX1_setPapers_18 : decode cX1_setPapers 18 = .ok (.iconst 2, 1) := by decide +kernel
theorem dX1_setPapers_19 : decode cX1_setPapers 19 = .ok (.iload_n 3, 1) := by decide +kernel
theorem dX1_setPapers_20 : decode cX1_setPapers 20 = .ok (.iastore, 1) := by decide +kernel
theorem dX1_setPapers_21 : decode cX1_setPapers 21 = .ok (.aload_n 0, 1) := by decide +kernel
theorem dX1_setPapers_22 : decode cX1_setPapers 22 = .ok (.getfield 25, 3) := by decide +kernel
theorem dX1_setPapers_25 : decode cX1_setPapers 25 = .ok (.iconst 3, 1) := by decide +kernel
theorem dX1_setPapers_26 : decode cX1_setPapers 26 = .ok (.iload 4, 2) := by decide +kernel
theorem dX1_setPapers_28 : decode cX1_setPapers 28 = .ok (.iastore, 1) := by decide +kernel
theorem dX1_setPapers_29 : decode cX1_setPapers 29 = .ok (.return_, 1) := by decide +kernel
theorem dX1_setVoyage_0 : decode cX1_setVoyage 0 = .ok (.aload_n 0, 1) := by decide +kernel
theorem dX1_setVoyage_1 : decode cX1_setVoyage 1 = .ok (.getfield 25, 3) := by decide +kernel
theorem dX1_setVoyage_4 : decode cX1_setVoyage 4 = .ok (.iconst 4, 1) := by decide +kernel
theorem dX1_setVoyage_5 : decode cX1_setVoyage 5 = .ok (.iload_n 1, 1) := by decide +kernel
theorem dX1_setVoyage_6 : decode cX1_setVoyage 6 = .ok (.iastore, 1) := by decide +kernel
theorem dX1_setVoyage_7 : decode cX1_setVoyage 7 = .ok (.aload_n 0, 1) := by decide +kernel
theorem dX1_setVoyage_8 : decode cX1_setVoyage 8 = .ok (.getfield 25, 3) := by decide +kernel
theorem dX1_setVoyage_11 : decode cX1_setVoyage 11 = .ok (.iconst 5, 1) := by decide +kernel
theorem dX1_setVoyage_12 : decode cX1_setVoyage 12 = .ok (.iload_n 2, 1) := by decide +kernel
theorem dX1_setVoyage_13 : decode cX1_setVoyage 13 = .ok (.iastore, 1) := by decide +kernel
theorem dX1_setVoyage_14 : decode cX1_setVoyage 14 = .ok (.aload_n 0, 1) := by decide +kernel
theorem dX1_setVoyage_15 : decode cX1_setVoyage 15 = .ok (.getfield 25, 3) := by decide +kernel
theorem dX1_setVoyage_18 : decode cX1_setVoyage 18 = .ok (.bipush 6, 2) := by decide +kernel
theorem dX1_setVoyage_20 : decode cX1_setVoyage 20 = .ok (.iload_n 3, 1) := by decide +kernel
theorem dX1_setVoyage_21 : decode cX1_setVoyage 21 = .ok (.iastore, 1) := by decide +kernel
theorem dX1_setVoyage_22 : decode cX1_setVoyage 22 = .ok (.aload_n 0, 1) := by decide +kernel
theorem dX1_setVoyage_23 : decode cX1_setVoyage 23 = .ok (.getfield 25, 3) := by decide +kernel
theorem dX1_setVoyage_26 : decode cX1_setVoyage 26 = .ok (.bipush 7, 2) := by decide +kernel
theorem dX1_setVoyage_28 : decode cX1_setVoyage 28 = .ok (.iload 4, 2) := by decide +kernel
theorem dX1_setVoyage_30 : decode cX1_setVoyage 30 = .ok (.iastore, 1) := by decide +kernel
theorem dX1_setVoyage_31 : decode cX1_setVoyage 31 = .ok (.return_, 1) := by decide +kernel
theorem dX1_waysAbove_0 : decode cX1_waysAbove 0 = .ok (.iconst 0, 1) := by decide +kernel
theorem dX1_waysAbove_1 : decode cX1_waysAbove 1 = .ok (.istore_n 2, 1) := by decide +kernel
theorem dX1_waysAbove_2 : decode cX1_waysAbove 2 = .ok (.iconst 0, 1) := by decide +kernel
theorem dX1_waysAbove_3 : decode cX1_waysAbove 3 = .ok (.iload_n 1, 1) := by decide +kernel
theorem dX1_waysAbove_4 : decode cX1_waysAbove 4 = .ok (.iconst 1, 1) := by decide +kernel
theorem dX1_waysAbove_5 : decode cX1_waysAbove 5 = .ok (.iadd, 1) := by decide +kernel
theorem dX1_waysAbove_6 : decode cX1_waysAbove 6 = .ok (.invokestatic 62, 3) := by decide +kernel
theorem dX1_waysAbove_9 : decode cX1_waysAbove 9 = .ok (.istore_n 3, 1) := by decide +kernel
theorem dX1_waysAbove_10 : decode cX1_waysAbove 10 = .ok (.iload_n 3, 1) := by decide +kernel
theorem dX1_waysAbove_11 : decode cX1_waysAbove 11 = .ok (.bipush 21, 2) := by decide +kernel
theorem dX1_waysAbove_13 : decode cX1_waysAbove 13 = .ok (.if_icmp .ge 18, 3) := by decide +kernel
theorem dX1_waysAbove_16 : decode cX1_waysAbove 16 = .ok (.iload_n 2, 1) := by decide +kernel
theorem dX1_waysAbove_17 : decode cX1_waysAbove 17 = .ok (.aload_n 0, 1) := by decide +kernel
theorem dX1_waysAbove_18 : decode cX1_waysAbove 18 = .ok (.getfield 18, 3) := by decide +kernel
theorem dX1_waysAbove_21 : decode cX1_waysAbove 21 = .ok (.iload_n 3, 1) := by decide +kernel
theorem dX1_waysAbove_22 : decode cX1_waysAbove 22 = .ok (.iaload, 1) := by decide +kernel
theorem dX1_waysAbove_23 : decode cX1_waysAbove 23 = .ok (.iadd, 1) := by decide +kernel
theorem dX1_waysAbove_24 : decode cX1_waysAbove 24 = .ok (.istore_n 2, 1) := by decide +kernel
theorem dX1_waysAbove_25 : decode cX1_waysAbove 25 = .ok (.iinc 3 1, 3) := by decide +kernel
theorem dX1_waysAbove_28 : decode cX1_waysAbove 28 = .ok (.goto (-18), 3) := by decide +kernel
theorem dX1_waysAbove_31 : decode cX1_waysAbove 31 = .ok (.iload_n 2, 1) := by decide +kernel
theorem dX1_waysAbove_32 : decode cX1_waysAbove 32 = .ok (.ireturn, 1) := by decide +kernel
theorem dX1_firstAbove_0 : decode cX1_firstAbove 0 = .ok (.iconst (-1), 1) := by decide +kernel
theorem dX1_firstAbove_1 : decode cX1_firstAbove 1 = .ok (.istore_n 2, 1) := by decide +kernel
theorem dX1_firstAbove_2 : decode cX1_firstAbove 2 = .ok (.iconst 0, 1) := by decide +kernel
theorem dX1_firstAbove_3 : decode cX1_firstAbove 3 = .ok (.iload_n 1, 1) := by decide +kernel
theorem dX1_firstAbove_4 : decode cX1_firstAbove 4 = .ok (.iconst 1, 1) := by decide +kernel
theorem dX1_firstAbove_5 : decode cX1_firstAbove 5 = .ok (.iadd, 1) := by decide +kernel
theorem dX1_firstAbove_6 : decode cX1_firstAbove 6 = .ok (.invokestatic 62, 3) := by decide +kernel
theorem dX1_firstAbove_9 : decode cX1_firstAbove 9 = .ok (.istore_n 3, 1) := by decide +kernel
theorem dX1_firstAbove_10 : decode cX1_firstAbove 10 = .ok (.iload_n 3, 1) := by decide +kernel
theorem dX1_firstAbove_11 : decode cX1_firstAbove 11 = .ok (.bipush 21, 2) := by decide +kernel
theorem dX1_firstAbove_13 : decode cX1_firstAbove 13 = .ok (.if_icmp .ge 41, 3) := by decide +kernel
theorem dX1_firstAbove_16 : decode cX1_firstAbove 16 = .ok (.aload_n 0, 1) := by decide +kernel
theorem dX1_firstAbove_17 : decode cX1_firstAbove 17 = .ok (.getfield 22, 3) := by decide +kernel
theorem dX1_firstAbove_20 : decode cX1_firstAbove 20 = .ok (.iload_n 3, 1) := by decide +kernel
theorem dX1_firstAbove_21 : decode cX1_firstAbove 21 = .ok (.iaload, 1) := by decide +kernel
theorem dX1_firstAbove_22 : decode cX1_firstAbove 22 = .ok (.iconst (-1), 1) := by decide +kernel
theorem dX1_firstAbove_23 : decode cX1_firstAbove 23 = .ok (.if_icmp .eq 25, 3) := by decide +kernel
theorem dX1_firstAbove_26 : decode cX1_firstAbove 26 = .ok (.iload_n 2, 1) := by decide +kernel
theorem dX1_firstAbove_27 : decode cX1_firstAbove 27 = .ok (.iconst (-1), 1) := by decide +kernel
theorem dX1_firstAbove_28 : decode cX1_firstAbove 28 = .ok (.if_icmp .eq 13, 3) := by decide +kernel
theorem dX1_firstAbove_31 : decode cX1_firstAbove 31 = .ok (.aload_n 0, 1) := by decide +kernel
theorem dX1_firstAbove_32 : decode cX1_firstAbove 32 = .ok (.getfield 22, 3) := by decide +kernel
theorem dX1_firstAbove_35 : decode cX1_firstAbove 35 = .ok (.iload_n 3, 1) := by decide +kernel
theorem dX1_firstAbove_36 : decode cX1_firstAbove 36 = .ok (.iaload, 1) := by decide +kernel
theorem dX1_firstAbove_37 : decode cX1_firstAbove 37 = .ok (.iload_n 2, 1) := by decide +kernel
theorem dX1_firstAbove_38 : decode cX1_firstAbove 38 = .ok (.if_icmp .ge 10, 3) := by decide +kernel
theorem dX1_firstAbove_41 : decode cX1_firstAbove 41 = .ok (.aload_n 0, 1) := by decide +kernel
theorem dX1_firstAbove_42 : decode cX1_firstAbove 42 = .ok (.getfield 22, 3) := by decide +kernel
theorem dX1_firstAbove_45 : decode cX1_firstAbove 45 = .ok (.iload_n 3, 1) := by decide +kernel
theorem dX1_firstAbove_46 : decode cX1_firstAbove 46 = .ok (.iaload, 1) := by decide +kernel
theorem dX1_firstAbove_47 : decode cX1_firstAbove 47 = .ok (.istore_n 2, 1) := by decide +kernel
theorem dX1_firstAbove_48 : decode cX1_firstAbove 48 = .ok (.iinc 3 1, 3) := by decide +kernel
theorem dX1_firstAbove_51 : decode cX1_firstAbove 51 = .ok (.goto (-41), 3) := by decide +kernel
theorem dX1_firstAbove_54 : decode cX1_firstAbove 54 = .ok (.iload_n 2, 1) := by decide +kernel
theorem dX1_firstAbove_55 : decode cX1_firstAbove 55 = .ok (.ireturn, 1) := by decide +kernel
theorem dX2_setTime_0 : decode cX2_setTime 0 = .ok (.aload_n 0, 1) := by decide +kernel
theorem dX2_setTime_1 : decode cX2_setTime 1 = .ok (.getfield 16, 3) := by decide +kernel
theorem dX2_setTime_4 : decode cX2_setTime 4 = .ok (.iconst 4, 1) := by decide +kernel
theorem dX2_setTime_5 : decode cX2_setTime 5 = .ok (.aload_n 0, 1) := by decide +kernel
theorem dX2_setTime_6 : decode cX2_setTime 6 = .ok (.getfield 20, 3) := by decide +kernel
theorem dX2_setTime_9 : decode cX2_setTime 9 = .ok (.iastore, 1) := by decide +kernel
theorem dX2_setTime_10 : decode cX2_setTime 10 = .ok (.aload_n 0, 1) := by decide +kernel
theorem dX2_setTime_11 : decode cX2_setTime 11 = .ok (.getfield 16, 3) := by decide +kernel
theorem dX2_setTime_14 : decode cX2_setTime 14 = .ok (.iconst 5, 1) := by decide +kernel
theorem dX2_setTime_15 : decode cX2_setTime 15 = .ok (.iload_n 1, 1) := by decide +kernel
theorem dX2_setTime_16 : decode cX2_setTime 16 = .ok (.iastore, 1) := by decide +kernel
theorem dX2_setTime_17 : decode cX2_setTime 17 = .ok (.aload_n 0, 1) := by decide +kernel
theorem dX2_setTime_18 : decode cX2_setTime 18 = .ok (.getfield 16, 3) := by decide +kernel
theorem dX2_setTime_21 : decode cX2_setTime 21 = .ok (.bipush 6, 2) := by decide +kernel
theorem dX2_setTime_23 : decode cX2_setTime 23 = .ok (.iload_n 2, 1) := by decide +kernel
theorem dX2_setTime_24 : decode cX2_setTime 24 = .ok (.iastore, 1) := by decide +kernel
theorem dX2_setTime_25 : decode cX2_setTime 25 = .ok (.return_, 1) := by decide +kernel
theorem dX2_clock_0 : decode cX2_clock 0 = .ok (.aload_n 0, 1) := by decide +kernel
theorem dX2_clock_1 : decode cX2_clock 1 = .ok (.getfield 16, 3) := by decide +kernel
theorem dX2_clock_4 : decode cX2_clock 4 = .ok (.bipush 6, 2) := by decide +kernel
theorem dX2_clock_6 : decode cX2_clock 6 = .ok (.iaload, 1) := by decide +kernel
theorem dX2_clock_7 : decode cX2_clock 7 = .ok (.ireturn, 1) := by decide +kernel
theorem dX2_setCell_0 : decode cX2_setCell 0 = .ok (.aload_n 0, 1) := by decide +kernel
theorem dX2_setCell_1 : decode cX2_setCell 1 = .ok (.getfield 16, 3) := by decide +kernel
theorem dX2_setCell_4 : decode cX2_setCell 4 = .ok (.iconst 0, 1) := by decide +kernel
theorem dX2_setCell_5 : decode cX2_setCell 5 = .ok (.iload_n 1, 1) := by decide +kernel
theorem dX2_setCell_6 : decode cX2_setCell 6 = .ok (.ifCond .le 9, 3) := by decide +kernel
theorem dX2_setCell_9 : decode cX2_setCell 9 = .ok (.iload_n 2, 1) := by decide +kernel
theorem dX2_setCell_10 : decode cX2_setCell 10 = .ok (.iload_n 1, 1) := by decide +kernel
theorem dX2_setCell_11 : decode cX2_setCell 11 = .ok (.idiv, 1) := by decide +kernel
theorem dX2_setCell_12 : decode cX2_setCell 12 = .ok (.goto 4, 3) := by decide +kernel
theorem dX2_setCell_15 : decode cX2_setCell 15 = .ok (.iconst 0, 1) := by decide +kernel
theorem dX2_setCell_16 : decode cX2_setCell 16 = .ok (.iastore, 1) := by decide +kernel
theorem dX2_setCell_17 : decode cX2_setCell 17 = .ok (.aload_n 0, 1) := by decide +kernel
theorem dX2_setCell_18 : decode cX2_setCell 18 = .ok (.getfield 16, 3) := by decide +kernel
theorem dX2_setCell_21 : decode cX2_setCell 21 = .ok (.iconst 1, 1) := by decide +kernel
theorem dX2_setCell_22 : decode cX2_setCell 22 = .ok (.iload_n 2, 1) := by decide +kernel
theorem dX2_setCell_23 : decode cX2_setCell 23 = .ok (.iastore, 1) := by decide +kernel
theorem dX2_setCell_24 : decode cX2_setCell 24 = .ok (.aload_n 0, 1) := by decide +kernel
theorem dX2_setCell_25 : decode cX2_setCell 25 = .ok (.getfield 16, 3) := by decide +kernel
theorem dX2_setCell_28 : decode cX2_setCell 28 = .ok (.iconst 2, 1) := by decide +kernel
theorem dX2_setCell_29 : decode cX2_setCell 29 = .ok (.iload_n 1, 1) := by decide +kernel
theorem dX2_setCell_30 : decode cX2_setCell 30 = .ok (.iastore, 1) := by decide +kernel
theorem dX2_setCell_31 : decode cX2_setCell 31 = .ok (.aload_n 0, 1) := by decide +kernel
theorem dX2_setCell_32 : decode cX2_setCell 32 = .ok (.getfield 16, 3) := by decide +kernel
theorem dX2_setCell_35 : decode cX2_setCell 35 = .ok (.iconst 3, 1) := by decide +kernel
theorem dX2_setCell_36 : decode cX2_setCell 36 = .ok (.iload_n 3, 1) := by decide +kernel
theorem dX2_setCell_37 : decode cX2_setCell 37 = .ok (.iastore, 1) := by decide +kernel
theorem dX2_setCell_38 : decode cX2_setCell 38 = .ok (.aload_n 0, 1) := by decide +kernel
theorem dX2_setCell_39 : decode cX2_setCell 39 = .ok (.getfield 16, 3) := by decide +kernel
theorem dX2_setCell_42 : decode cX2_setCell 42 = .ok (.bipush 7, 2) := by decide +kernel
theorem dX2_setCell_44 : decode cX2_setCell 44 = .ok (.iload 4, 2) := by decide +kernel
theorem dX2_setCell_46 : decode cX2_setCell 46 = .ok (.iastore, 1) := by decide +kernel
theorem dX2_setCell_47 : decode cX2_setCell 47 = .ok (.return_, 1) := by decide +kernel
theorem dX2_setLight_0 : decode cX2_setLight 0 = .ok (.aload_n 0, 1) := by decide +kernel
theorem dX2_setLight_1 : decode cX2_setLight 1 = .ok (.getfield 16, 3) := by decide +kernel
theorem dX2_setLight_4 : decode cX2_setLight 4 = .ok (.bipush 8, 2) := by decide +kernel
theorem dX2_setLight_6 : decode cX2_setLight 6 = .ok (.iload_n 1, 1) := by decide +kernel
theorem dX2_setLight_7 : decode cX2_setLight 7 = .ok (.ifCond .eq 7, 3) := by decide +kernel
theorem dX2_setLight_10 : decode cX2_setLight 10 = .ok (.iconst 1, 1) := by decide +kernel
theorem dX2_setLight_11 : decode cX2_setLight 11 = .ok (.goto 4, 3) := by decide +kernel
theorem dX2_setLight_14 : decode cX2_setLight 14 = .ok (.iconst 0, 1) := by decide +kernel
theorem dX2_setLight_15 : decode cX2_setLight 15 = .ok (.iastore, 1) := by decide +kernel
theorem dX2_setLight_16 : decode cX2_setLight 16 = .ok (.return_, 1) := by decide +kernel
theorem dX3_nearTo_0 : decode cX3_nearTo 0 = .ok (.iconst 0, 1) := by decide +kernel
theorem dX3_nearTo_1 : decode cX3_nearTo 1 = .ok (.istore_n 3, 1) := by decide +kernel
theorem dX3_nearTo_2 : decode cX3_nearTo 2 = .ok (.iconst 0, 1) := by decide +kernel
theorem dX3_nearTo_3 : decode cX3_nearTo 3 = .ok (.istore 4, 2) := by decide +kernel
theorem dX3_nearTo_5 : decode cX3_nearTo 5 = .ok (.iload 4, 2) := by decide +kernel
theorem dX3_nearTo_7 : decode cX3_nearTo 7 = .ok (.bipush 8, 2) := by decide +kernel
theorem dX3_nearTo_9 : decode cX3_nearTo 9 = .ok (.if_icmp .ge 42, 3) := by decide +kernel
theorem dX3_nearTo_12 : decode cX3_nearTo 12 = .ok (.aload_n 0, 1) := by decide +kernel
theorem dX3_nearTo_13 : decode cX3_nearTo 13 = .ok (.getfield 9, 3) := by decide +kernel
theorem dX3_nearTo_16 : decode cX3_nearTo 16 = .ok (.iload 4, 2) := by decide +kernel
theorem dX3_nearTo_18 : decode cX3_nearTo 18 = .ok (.iaload, 1) := by decide +kernel
theorem dX3_nearTo_19 : decode cX3_nearTo 19 = .ok (.iconst (-1), 1) := by decide +kernel
theorem dX3_nearTo_20 : decode cX3_nearTo 20 = .ok (.if_icmp .eq 25, 3) := by decide +kernel
theorem dX3_nearTo_23 : decode cX3_nearTo 23 = .ok (.aload_n 0, 1) := by decide +kernel
theorem dX3_nearTo_24 : decode cX3_nearTo 24 = .ok (.getfield 9, 3) := by decide +kernel
theorem dX3_nearTo_27 : decode cX3_nearTo 27 = .ok (.iload 4, 2) := by decide +kernel
theorem dX3_nearTo_29 : decode cX3_nearTo 29 = .ok (.iaload, 1) := by decide +kernel
theorem dX3_nearTo_30 : decode cX3_nearTo 30 = .ok (.iload_n 1, 1) := by decide +kernel
theorem dX3_nearTo_31 : decode cX3_nearTo 31 = .ok (.invokestatic 46, 3) := by decide +kernel
theorem dX3_nearTo_34 : decode cX3_nearTo 34 = .ok (.iload_n 2, 1) := by decide +kernel
theorem dX3_nearTo_35 : decode cX3_nearTo 35 = .ok (.if_icmp .gt 10, 3) := by decide +kernel
theorem dX3_nearTo_38 : decode cX3_nearTo 38 = .ok (.iload_n 3, 1) := by decide +kernel
theorem dX3_nearTo_39 : decode cX3_nearTo 39 = .ok (.iconst 1, 1) := by decide +kernel
theorem dX3_nearTo_40 : decode cX3_nearTo 40 = .ok (.iload 4, 2) := by decide +kernel
theorem dX3_nearTo_42 : decode cX3_nearTo 42 = .ok (.ishl, 1) := by decide +kernel
theorem dX3_nearTo_43 : decode cX3_nearTo 43 = .ok (.ior, 1) := by decide +kernel
theorem dX3_nearTo_44 : decode cX3_nearTo 44 = .ok (.istore_n 3, 1) := by decide +kernel
theorem dX3_nearTo_45 : decode cX3_nearTo 45 = .ok (.iinc 4 1, 3) := by decide +kernel
theorem dX3_nearTo_48 : decode cX3_nearTo 48 = .ok (.goto (-43), 3) := by decide +kernel
theorem dX3_nearTo_51 : decode cX3_nearTo 51 = .ok (.iload_n 3, 1) := by decide +kernel
theorem dX3_nearTo_52 : decode cX3_nearTo 52 = .ok (.sipush 255, 3) := by decide +kernel
theorem dX3_nearTo_55 : decode cX3_nearTo 55 = .ok (.iand, 1) := by decide +kernel
theorem dX3_nearTo_56 : decode cX3_nearTo 56 = .ok (.ireturn, 1) := by decide +kernel
theorem dX3_isFair_0 : decode cX3_isFair 0 = .ok (.iconst 0, 1) := by decide +kernel
theorem dX3_isFair_1 : decode cX3_isFair 1 = .ok (.istore_n 2, 1) := by decide +kernel
theorem dX3_isFair_2 : decode cX3_isFair 2 = .ok (.iload_n 2, 1) := by decide +kernel
theorem dX3_isFair_3 : decode cX3_isFair 3 = .ok (.sipush 256, 3) := by decide +kernel
theorem dX3_isFair_6 : decode cX3_isFair 6 = .ok (.if_icmp .ge 26, 3) := by decide +kernel
theorem dX3_isFair_9 : decode cX3_isFair 9 = .ok (.aload_n 0, 1) := by decide +kernel
theorem dX3_isFair_10 : decode cX3_isFair 10 = .ok (.getfield 15, 3) := by decide +kernel
theorem dX3_isFair_13 : decode cX3_isFair 13 = .ok (.iload_n 2, 1) := by decide +kernel
theorem dX3_isFair_14 : decode cX3_isFair 14 = .ok (.baload, 1) := by decide +kernel
theorem dX3_isFair_15 : decode cX3_isFair 15 = .ok (.ifCond .eq 11, 3) := by decide +kernel
theorem dX3_isFair_18 : decode cX3_isFair 18 = .ok (.iload_n 2, 1) := by decide +kernel
theorem dX3_isFair_19 : decode cX3_isFair 19 = .ok (.iload_n 1, 1) := by decide +kernel
theorem dX3_isFair_20 : decode cX3_isFair 20 = .ok (.iand, 1) := by decide +kernel
theorem dX3_isFair_21 : decode cX3_isFair 21 = .ok (.ifCond .ne 5, 3) := by decide +kernel
theorem dX3_isFair_24 : decode cX3_isFair 24 = .ok (.iconst 0, 1) := by decide +kernel
theorem dX3_isFair_25 : decode cX3_isFair 25 = .ok (.ireturn, 1) := by decide +kernel
theorem dX3_isFair_26 : decode cX3_isFair 26 = .ok (.iinc 2 1, 3) := by decide +kernel
theorem dX3_isFair_29 : decode cX3_isFair 29 = .ok (.goto (-27), 3) := by decide +kernel
theorem dX3_isFair_32 : decode cX3_isFair 32 = .ok (.iconst 1, 1) := by decide +kernel
theorem dX3_isFair_33 : decode cX3_isFair 33 = .ok (.ireturn, 1) := by decide +kernel
theorem dX4_hasRoom_0 : decode cX4_hasRoom 0 = .ok (.aload_n 0, 1) := by decide +kernel
theorem dX4_hasRoom_1 : decode cX4_hasRoom 1 = .ok (.getfield 32, 3) := by decide +kernel
theorem dX4_hasRoom_4 : decode cX4_hasRoom 4 = .ok (.iload_n 1, 1) := by decide +kernel
theorem dX4_hasRoom_5 : decode cX4_hasRoom 5 = .ok (.iadd, 1) := by decide +kernel
theorem dX4_hasRoom_6 : decode cX4_hasRoom 6 = .ok (.sipush 600, 3) := by decide +kernel
theorem dX4_hasRoom_9 : decode cX4_hasRoom 9 = .ok (.if_icmp .gt 7, 3) := by decide +kernel
theorem dX4_hasRoom_12 : decode cX4_hasRoom 12 = .ok (.iconst 1, 1) := by decide +kernel
theorem dX4_hasRoom_13 : decode cX4_hasRoom 13 = .ok (.goto 4, 3) := by decide +kernel
theorem dX4_hasRoom_16 : decode cX4_hasRoom 16 = .ok (.iconst 0, 1) := by decide +kernel
theorem dX4_hasRoom_17 : decode cX4_hasRoom 17 = .ok (.ireturn, 1) := by decide +kernel
theorem dX4_addBytes_0 : decode cX4_addBytes 0 = .ok (.bipush 24, 2) := by decide +kernel
theorem dX4_addBytes_2 : decode cX4_addBytes 2 = .ok (.istore_n 2, 1) := by decide +kernel
theorem dX4_addBytes_3 : decode cX4_addBytes 3 = .ok (.iload_n 2, 1) := by decide +kernel
theorem dX4_addBytes_4 : decode cX4_addBytes 4 = .ok (.ifCond .lt 45, 3) := by decide +kernel
theorem dX4_addBytes_7 : decode cX4_addBytes 7 = .ok (.aload_n 0, 1) := by decide +kernel
theorem dX4_addBytes_8 : decode cX4_addBytes 8 = .ok (.getfield 32, 3) := by decide +kernel
theorem dX4_addBytes_11 : decode cX4_addBytes 11 = .ok (.sipush 600, 3) := by decide +kernel
theorem dX4_addBytes_14 : decode cX4_addBytes 14 = .ok (.if_icmp .ge 35, 3) := by decide +kernel
theorem dX4_addBytes_17 : decode cX4_addBytes 17 = .ok (.aload_n 0, 1) := by decide +kernel
theorem dX4_addBytes_18 : decode cX4_addBytes 18 = .ok (.getfield 9, 3) := by decide +kernel
theorem dX4_addBytes_21 : decode cX4_addBytes 21 = .ok (.aload_n 0, 1) := by decide +kernel
theorem dX4_addBytes_22 : decode cX4_addBytes 22 = .ok (.getfield 32, 3) := by decide +kernel
theorem dX4_addBytes_25 : decode cX4_addBytes 25 = .ok (.iload_n 1, 1) := by decide +kernel
theorem dX4_addBytes_26 : decode cX4_addBytes 26 = .ok (.iload_n 2, 1) := by decide +kernel
theorem dX4_addBytes_27 : decode cX4_addBytes 27 = .ok (.iushr, 1) := by decide +kernel
theorem dX4_addBytes_28 : decode cX4_addBytes 28 = .ok (.sipush 255, 3) := by decide +kernel
theorem dX4_addBytes_31 : decode cX4_addBytes 31 = .ok (.iand, 1) := by decide +kernel
theorem dX4_addBytes_32 : decode cX4_addBytes 32 = .ok (.iastore, 1) := by decide +kernel
theorem dX4_addBytes_33 : decode cX4_addBytes 33 = .ok (.aload_n 0, 1) := by decide +kernel
theorem dX4_addBytes_34 : decode cX4_addBytes 34 = .ok (.dup, 1) := by decide +kernel
theorem dX4_addBytes_35 : decode cX4_addBytes 35 = .ok (.getfield 32, 3) := by decide +kernel
theorem dX4_addBytes_38 : decode cX4_addBytes 38 = .ok (.iconst 1, 1) := by decide +kernel
theorem dX4_addBytes_39 : decode cX4_addBytes 39 = .ok (.iadd, 1) := by decide +kernel
theorem dX4_addBytes_40 : decode cX4_addBytes 40 = .ok (.putfield 32, 3) := by decide +kernel
theorem dX4_addBytes_43 : decode cX4_addBytes 43 = .ok (.iinc 2 (-8), 3) := by decide +kernel
theorem dX4_addBytes_46 : decode cX4_addBytes 46 = .ok (.goto (-43), 3) := by decide +kernel
theorem dX4_addBytes_49 : decode cX4_addBytes 49 = .ok (.aload_n 0, 1) := by decide +kernel
theorem dX4_addBytes_50 : decode cX4_addBytes 50 = .ok (.getfield 32, 3) := by decide +kernel
theorem dX4_addBytes_53 : decode cX4_addBytes 53 = .ok (.ireturn, 1) := by decide +kernel
theorem dX4_cutTo_0 : decode cX4_cutTo 0 = .ok (.iload_n 1, 1) := by decide +kernel
theorem dX4_cutTo_1 : decode cX4_cutTo 1 = .ok (.ifCond .lt 11, 3) := by decide +kernel
theorem dX4_cutTo_4 : decode cX4_cutTo 4 = .ok (.iload_n 1, 1) := by decide +kernel
theorem dX4_cutTo_5 : decode cX4_cutTo 5 = .ok (.aload_n 0, 1) := by decide +kernel
theorem dX4_cutTo_6 : decode cX4_cutTo 6 = .ok (.getfield 32, 3) := by decide +kernel
theorem dX4_cutTo_9 : decode cX4_cutTo 9 = .ok (.if_icmp .le 5, 3) := by decide +kernel
theorem dX4_cutTo_12 : decode cX4_cutTo 12 = .ok (.iconst 0, 1) := by decide +kernel
theorem dX4_cutTo_13 : decode cX4_cutTo 13 = .ok (.ireturn, 1) := by decide +kernel
theorem dX4_cutTo_14 : decode cX4_cutTo 14 = .ok (.aload_n 0, 1) := by decide +kernel
theorem dX4_cutTo_15 : decode cX4_cutTo 15 = .ok (.iload_n 1, 1) := by decide +kernel
theorem dX4_cutTo_16 : decode cX4_cutTo 16 = .ok (.putfield 32, 3) := by decide +kernel
theorem dX4_cutTo_19 : decode cX4_cutTo 19 = .ok (.iconst 1, 1) := by decide +kernel
theorem dX4_cutTo_20 : decode cX4_cutTo 20 = .ok (.ireturn, 1) := by decide +kernel
theorem dX4_exchange_0 : decode cX4_exchange 0 = .ok (.aload_n 0, 1) := by decide +kernel
theorem dX4_exchange_1 : decode cX4_exchange 1 = .ok (.getfield 24, 3) := by decide +kernel
theorem dX4_exchange_4 : decode cX4_exchange 4 = .ok (.astore_n 2, 1) := by decide +kernel
theorem dX4_exchange_5 : decode cX4_exchange 5 = .ok (.aload_n 0, 1) := by decide +kernel
theorem dX4_exchange_6 : decode cX4_exchange 6 = .ok (.aload_n 1, 1) := by decide +kernel
theorem dX4_exchange_7 : decode cX4_exchange 7 = .ok (.putfield 24, 3) := by decide +kernel
theorem dX4_exchange_10 : decode cX4_exchange 10 = .ok (.aload_n 2, 1) := by decide +kernel
theorem dX4_exchange_11 : decode cX4_exchange 11 = .ok (.areturn, 1) := by decide +kernel
theorem dX4_isLetter_0 : decode cX4_isLetter 0 = .ok (.iload_n 0, 1) := by decide +kernel
theorem dX4_isLetter_1 : decode cX4_isLetter 1 = .ok (.bipush 97, 2) := by decide +kernel
theorem dX4_isLetter_3 : decode cX4_isLetter 3 = .ok (.if_icmp .lt 9, 3) := by decide +kernel
theorem dX4_isLetter_6 : decode cX4_isLetter 6 = .ok (.iload_n 0, 1) := by decide +kernel
theorem dX4_isLetter_7 : decode cX4_isLetter 7 = .ok (.bipush 122, 2) := by decide +kernel
theorem dX4_isLetter_9 : decode cX4_isLetter 9 = .ok (.if_icmp .le 15, 3) := by decide +kernel
theorem dX4_isLetter_12 : decode cX4_isLetter 12 = .ok (.iload_n 0, 1) := by decide +kernel
theorem dX4_isLetter_13 : decode cX4_isLetter 13 = .ok (.bipush 65, 2) := by decide +kernel
theorem dX4_isLetter_15 : decode cX4_isLetter 15 = .ok (.if_icmp .lt 13, 3) := by decide +kernel
theorem dX4_isLetter_18 : decode cX4_isLetter 18 = .ok (.iload_n 0, 1) := by decide +kernel
theorem dX4_isLetter_19 : decode cX4_isLetter 19 = .ok (.bipush 90, 2) := by decide +kernel
theorem dX4_isLetter_21 : decode cX4_isLetter 21 = .ok (.if_icmp .gt 7, 3) := by decide +kernel
theorem dX4_isLetter_24 : decode cX4_isLetter 24 = .ok (.iconst 1, 1) := by decide +kernel
theorem dX4_isLetter_25 : decode cX4_isLetter 25 = .ok (.goto 4, 3) := by decide +kernel
theorem dX4_isLetter_28 : decode cX4_isLetter 28 = .ok (.iconst 0, 1) := by decide +kernel
theorem dX4_isLetter_29 : decode cX4_isLetter 29 = .ok (.ireturn, 1) := by decide +kernel
theorem dX4_isDigit_0 : decode cX4_isDigit 0 = .ok (.iload_n 0, 1) := by decide +kernel
theorem dX4_isDigit_1 : decode cX4_isDigit 1 = .ok (.bipush 48, 2) := by decide +kernel
theorem dX4_isDigit_3 : decode cX4_isDigit 3 = .ok (.if_icmp .lt 13, 3) := by decide +kernel
theorem dX4_isDigit_6 : decode cX4_isDigit 6 = .ok (.iload_n 0, 1) := by decide +kernel
theorem dX4_isDigit_7 : decode cX4_isDigit 7 = .ok (.bipush 57, 2) := by decide +kernel
theorem dX4_isDigit_9 : decode cX4_isDigit 9 = .ok (.if_icmp .gt 7, 3) := by decide +kernel
theorem dX4_isDigit_12 : decode cX4_isDigit 12 = .ok (.iconst 1, 1) := by decide +kernel
theorem dX4_isDigit_13 : decode cX4_isDigit 13 = .ok (.goto 4, 3) := by decide +kernel
theorem dX4_isDigit_16 : decode cX4_isDigit 16 = .ok (.iconst 0, 1) := by decide +kernel
theorem dX4_isDigit_17 : decode cX4_isDigit 17 = .ok (.ireturn, 1) := by decide +kernel
theorem dX4_runEnd_0 : decode cX4_runEnd 0 = .ok (.iload_n 1, 1) := by decide +kernel
theorem dX4_runEnd_1 : decode cX4_runEnd 1 = .ok (.istore_n 3, 1) := by decide +kernel
theorem dX4_runEnd_2 : decode cX4_runEnd 2 = .ok (.iload_n 3, 1) := by decide +kernel
theorem dX4_runEnd_3 : decode cX4_runEnd 3 = .ok (.aload_n 0, 1) := by decide +kernel
theorem dX4_runEnd_4 : decode cX4_runEnd 4 = .ok (.getfield 32, 3) := by decide +kernel
theorem dX4_runEnd_7 : decode cX4_runEnd 7 = .ok (.if_icmp .ge 40, 3) := by decide +kernel
theorem dX4_runEnd_10 : decode cX4_runEnd 10 = .ok (.iload_n 2, 1) := by decide +kernel
theorem dX4_runEnd_11 : decode cX4_runEnd 11 = .ok (.ifCond .eq 18, 3) := by decide +kernel
theorem dX4_runEnd_14 : decode cX4_runEnd 14 = .ok (.aload_n 0, 1) := by decide +kernel
theorem dX4_runEnd_15 : decode cX4_runEnd 15 = .ok (.getfield 9, 3) := by decide +kernel
theorem dX4_runEnd_18 : decode cX4_runEnd 18 = .ok (.iload_n 3, 1) := by decide +kernel
theorem dX4_runEnd_19 : decode cX4_runEnd 19 = .ok (.iaload, 1) := by decide +kernel
theorem dX4_runEnd_20 : decode cX4_runEnd 20 = .ok (.invokestatic 58, 3) := by decide +kernel
theorem dX4_runEnd_23 : decode cX4_runEnd 23 = .ok (.ifCond .eq 24, 3) := by decide +kernel
theorem dX4_runEnd_26 : decode cX4_runEnd 26 = .ok (.goto 15, 3) := by decide +kernel
theorem dX4_runEnd_29 : decode cX4_runEnd 29 = .ok (.aload_n 0, 1) := by decide +kernel
theorem dX4_runEnd_30 : decode cX4_runEnd 30 = .ok (.getfield 9, 3) := by decide +kernel
theorem dX4_runEnd_33 : decode cX4_runEnd 33 = .ok (.iload_n 3, 1) := by decide +kernel
theorem dX4_runEnd_34 : decode cX4_runEnd 34 = .ok (.iaload, 1) := by decide +kernel
theorem dX4_runEnd_35 : decode cX4_runEnd 35 = .ok (.invokestatic 70, 3) := by decide +kernel
theorem dX4_runEnd_38 : decode cX4_runEnd 38 = .ok (.ifCond .eq 9, 3) := by decide +kernel
theorem dX4_runEnd_41 : decode cX4_runEnd 41 = .ok (.iinc 3 1, 3) := by decide +kernel
theorem dX4_runEnd_44 : decode cX4_runEnd 44 = .ok (.goto (-42), 3) := by decide +kernel
theorem dX4_runEnd_47 : decode cX4_runEnd 47 = .ok (.iload_n 3, 1) := by decide +kernel
theorem dX4_runEnd_48 : decode cX4_runEnd 48 = .ok (.ireturn, 1) := by decide +kernel
theorem dX4_numberKind_0 : decode cX4_numberKind 0 = .ok (.iload_n 2, 1) := by decide +kernel
theorem dX4_numberKind_1 : decode cX4_numberKind 1 = .ok (.iload_n 1, 1) := by decide +kernel
theorem dX4_numberKind_2 : decode cX4_numberKind 2 = .ok (.isub, 1) := by decide +kernel
theorem dX4_numberKind_3 : decode cX4_numberKind 3 = .ok (.iconst 4, 1) := by decide +kernel
theorem dX4_numberKind_4 : decode cX4_numberKind 4 = .ok (.if_icmp .le 5, 3) := by decide +kernel
theorem dX4_numberKind_7 : decode cX4_numberKind 7 = .ok (.iconst 1, 1) := by decide +kernel
theorem dX4_numberKind_8 : decode cX4_numberKind 8 = .ok (.ireturn, 1) := by decide +kernel
theorem dX4_numberKind_9 : decode cX4_numberKind 9 = .ok (.iconst 0, 1) := by decide +kernel
theorem dX4_numberKind_10 : decode cX4_numberKind 10 = .ok (.istore_n 3, 1) := by decide +kernel
theorem dX4_numberKind_11 : decode cX4_numberKind 11 = .ok (.iload_n 1, 1) := by decide +kernel
theorem dX4_numberKind_12 : decode cX4_numberKind 12 = .ok (.istore 4, 2) := by decide +kernel
theorem dX4_numberKind_14 : decode cX4_numberKind 14 = .ok (.iload 4, 2) := by decide +kernel
theorem dX4_numberKind_16 : decode cX4_numberKind 16 = .ok (.iload_n 2, 1) := by decide +kernel
theorem dX4_numberKind_17 : decode cX4_numberKind 17 = .ok (.if_icmp .ge 25, 3) := by decide +kernel
theorem dX4_numberKind_20 : decode cX4_numberKind 20 = .ok (.bipush 10, 2) := by decide +kernel
theorem dX4_numberKind_22 : decode cX4_numberKind 22 = .ok (.iload_n 3, 1) := by decide +kernel
theorem dX4_numberKind_23 : decode cX4_numberKind 23 = .ok (.imul, 1) := by decide +kernel
theorem dX4_numberKind_24 : decode cX4_numberKind 24 = .ok (.aload_n 0, 1) := by decide +kernel
theorem dX4_numberKind_25 : decode cX4_numberKind 25 = .ok (.getfield 9, 3) := by decide +kernel
theorem dX4_numberKind_28 : decode cX4_numberKind 28 = .ok (.iload 4, 2) := by decide +kernel
theorem dX4_numberKind_30 : decode cX4_numberKind 30 = .ok (.iaload, 1) := by decide +kernel
theorem dX4_numberKind_31 : decode cX4_numberKind 31 = .ok (.iadd, 1) := by decide +kernel
theorem dX4_numberKind_32 : decode cX4_numberKind 32 = .ok (.bipush 48, 2) := by decide +kernel
theorem dX4_numberKind_34 : decode cX4_numberKind 34 = .ok (.isub, 1) := by decide +kernel
theorem dX4_numberKind_35 : decode cX4_numberKind 35 = .ok (.istore_n 3, 1) := by decide +kernel
theorem dX4_numberKind_36 : decode cX4_numberKind 36 = .ok (.iinc 4 1, 3) := by decide +kernel
theorem dX4_numberKind_39 : decode cX4_numberKind 39 = .ok (.goto (-25), 3) := by decide +kernel
theorem dX4_numberKind_42 : decode cX4_numberKind 42 = .ok (.sipush 1000, 3) := by decide +kernel
theorem dX4_numberKind_45 : decode cX4_numberKind 45 = .ok (.iload_n 3, 1) := by decide +kernel
theorem dX4_numberKind_46 : decode cX4_numberKind 46 = .ok (.iadd, 1) := by decide +kernel
theorem dX4_numberKind_47 : decode cX4_numberKind 47 = .ok (.ireturn, 1) := by decide +kernel
theorem dX4_advance_0 : decode cX4_advance 0 = .ok (.aload_n 0, 1) := by decide +kernel
theorem dX4_advance_1 : decode cX4_advance 1 = .ok (.getfield 51, 3) := by decide +kernel
theorem dX4_advance_4 : decode cX4_advance 4 = .ok (.ifCond .eq 36, 3) := by decide +kernel
theorem dX4_advance_7 : decode cX4_advance 7 = .ok (.aload_n 0, 1) := by decide +kernel
theorem dX4_advance_8 : decode cX4_advance 8 = .ok (.getfield 48, 3) := by decide +kernel
theorem dX4_advance_11 : decode cX4_advance 11 = .ok (.sipush 600, 3) := by decide +kernel
theorem dX4_advance_14 : decode cX4_advance 14 = .ok (.if_icmp .ge 26, 3) := by decide +kernel
theorem dX4_advance_17 : decode cX4_advance 17 = .ok (.aload_n 0, 1) := by decide +kernel
theorem dX4_advance_18 : decode cX4_advance 18 = .ok (.dup, 1) := by decide +kernel
theorem dX4_advance_19 : decode cX4_advance 19 = .ok (.getfield 48, 3) := by decide +kernel
theorem dX4_advance_22 : decode cX4_advance 22 = .ok (.iconst 1, 1) := by decide +kernel
theorem dX4_advance_23 : decode cX4_advance 23 = .ok (.iadd, 1) := by decide +kernel
theorem dX4_advance_24 : decode cX4_advance 24 = .ok (.putfield 48, 3) := by decide +kernel
theorem dX4_advance_27 : decode cX4_advance 27 = .ok (.aload_n 0, 1) := by decide +kernel
theorem dX4_advance_28 : decode cX4_advance 28 = .ok (.aload_n 0, 1) := by decide +kernel
theorem dX4_advance_29 : decode cX4_advance 29 = .ok (.getfield 15, 3) := by decide +kernel
theorem dX4_advance_32 : decode cX4_advance 32 = .ok (.aload_n 0, 1) := by decide +kernel
theorem dX4_advance_33 : decode cX4_advance 33 = .ok (.getfield 48, 3) := by decide +kernel
theorem dX4_advance_36 : decode cX4_advance 36 = .ok (.iaload, 1) := by decide +kernel
theorem dX4_advance_37 : decode cX4_advance 37 = .ok (.putfield 51, 3) := by decide +kernel
theorem dX4_advance_40 : decode cX4_advance 40 = .ok (.return_, 1) := by decide +kernel
theorem dX4_take_0 : decode cX4_take 0 = .ok (.aload_n 0, 1) := by decide +kernel
theorem dX4_take_1 : decode cX4_take 1 = .ok (.getfield 51, 3) := by decide +kernel
theorem dX4_take_4 : decode cX4_take 4 = .ok (.iload_n 1, 1) := by decide +kernel
theorem dX4_take_5 : decode cX4_take 5 = .ok (.if_icmp .eq 5, 3) := by decide +kernel
theorem dX4_take_8 : decode cX4_take 8 = .ok (.iconst 0, 1) := by decide +kernel
theorem dX4_take_9 : decode cX4_take 9 = .ok (.ireturn, 1) := by decide +kernel
theorem dX4_take_10 : decode cX4_take 10 = .ok (.aload_n 0, 1) := by decide +kernel
theorem dX4_take_11 : decode cX4_take 11 = .ok (.invokevirtual 95, 3) := by decide +kernel
theorem dX4_take_14 : decode cX4_take 14 = .ok (.iconst 1, 1) := by decide +kernel
theorem dX4_take_15 : decode cX4_take 15 = .ok (.ireturn, 1) := by decide +kernel
theorem dX4_numberHere_0 : decode cX4_numberHere 0 = .ok (.aload_n 0, 1) := by decide +kernel
theorem dX4_numberHere_1 : decode cX4_numberHere 1 = .ok (.getfield 51, 3) := by decide +kernel
theorem dX4_numberHere_4 : decode cX4_numberHere 4 = .ok (.sipush 1000, 3) := by decide +kernel
theorem dX4_numberHere_7 : decode cX4_numberHere 7 = .ok (.if_icmp .lt 14, 3) := by decide +kernel
theorem dX4_numberHere_10 : decode cX4_numberHere 10 = .ok (.aload_n 0, 1) := by decide +kernel
theorem dX4_numberHere_11 : decode cX4_numberHere 11 = .ok (.getfield 51, 3) := by decide +kernel
theorem dX4_numberHere_14 : decode cX4_numberHere 14 = .ok (.sipush 1000, 3) := by decide +kernel
theorem dX4_numberHere_17 : decode cX4_numberHere 17 = .ok (.isub, 1) := by decide +kernel
theorem dX4_numberHere_18 : decode cX4_numberHere 18 = .ok (.goto 4, 3) := by decide +kernel
theorem dX4_numberHere_21 : decode cX4_numberHere 21 = .ok (.iconst (-1), 1) := by decide +kernel
theorem dX4_numberHere_22 : decode cX4_numberHere 22 = .ok (.ireturn, 1) := by decide +kernel
theorem dX4_fail_0 : decode cX4_fail 0 = .ok (.aload_n 0, 1) := by decide +kernel
theorem dX4_fail_1 : decode cX4_fail 1 = .ok (.iload_n 1, 1) := by decide +kernel
theorem dX4_fail_2 : decode cX4_fail 2 = .ok (.putfield 39, 3) := by decide +kernel
theorem dX4_fail_5 : decode cX4_fail 5 = .ok (.aload_n 0, 1) := by decide +kernel
theorem dX4_fail_6 : decode cX4_fail 6 = .ok (.aload_n 0, 1) := by decide +kernel
theorem dX4_fail_7 : decode cX4_fail 7 = .ok (.getfield 48, 3) := by decide +kernel
theorem dX4_fail_10 : decode cX4_fail 10 = .ok (.sipush 600, 3) := by decide +kernel
theorem dX4_fail_13 : decode cX4_fail 13 = .ok (.if_icmp .gt 15, 3) := by decide +kernel
theorem dX4_fail_16 : decode cX4_fail 16 = .ok (.aload_n 0, 1) := by decide +kernel
theorem dX4_fail_17 : decode cX4_fail 17 = .ok (.getfield 18, 3) := by decide +kernel
theorem dX4_fail_20 : decode cX4_fail 20 = .ok (.aload_n 0, 1) := by decide +kernel
theorem dX4_fail_21 : decode cX4_fail 21 = .ok (.getfield 48, 3) := by decide +kernel
theorem dX4_fail_24 : decode cX4_fail 24 = .ok (.iaload, 1) := by decide +kernel
theorem dX4_fail_25 : decode cX4_fail 25 = .ok (.goto 4, 3) := by decide +kernel
theorem dX4_fail_28 : decode cX4_fail 28 = .ok (.iconst (-1), 1) := by decide +kernel
theorem dX4_fail_29 : decode cX4_fail 29 = .ok (.putfield 28, 3) := by decide +kernel
theorem dX4_fail_32 : decode cX4_fail 32 = .ok (.iconst 0, 1) := by decide +kernel
theorem dX4_fail_33 : decode cX4_fail 33 = .ok (.ireturn, 1) := by decide +kernel
theorem dX4_headKinds_0 : decode cX4_headKinds 0 = .ok (.aload_n 0, 1) := by decide +kernel
theorem dX4_headKinds_1 : decode cX4_headKinds 1 = .ok (.getfield 35, 3) := by decide +kernel
theorem dX4_headKinds_4 : decode cX4_headKinds 4 = .ok (.ifCond .eq 7, 3) := by decide +kernel
theorem dX4_headKinds_7 : decode cX4_headKinds 7 = .ok (.iconst 4, 1) := by decide +kernel
theorem dX4_headKinds_8 : decode cX4_headKinds 8 = .ok (.goto 4, 3) := by decide +kernel
theorem dX4_headKinds_11 : decode cX4_headKinds 11 = .ok (.iconst 3, 1) := by decide +kernel
theorem dX4_headKinds_12 : decode cX4_headKinds 12 = .ok (.ireturn, 1) := by decide +kernel
theorem dX5_heft_0 : decode cX5_heft 0 = .ok (.bipush 10, 2) := by decide +kernel
theorem dX5_heft_2 : decode cX5_heft 2 = .ok (.aload_n 0, 1) := by decide +kernel
theorem dX5_heft_3 : decode cX5_heft 3 = .ok (.getfield 14, 3) := by decide +kernel
theorem dX5_heft_6 : decode cX5_heft 6 = .ok (.getfield 61, 3) := by decide +kernel
theorem dX5_heft_9 : decode cX5_heft 9 = .ok (.iload_n 1, 1) := by decide +kernel
theorem dX5_heft_10 : decode cX5_heft 10 = .ok (.iaload, 1) := by decide +kernel
theorem dX5_heft_11 : decode cX5_heft 11 = .ok (.imul, 1) := by decide +kernel
theorem dX5_heft_12 : decode cX5_heft 12 = .ok (.aload_n 0, 1) := by decide +kernel
theorem dX5_heft_13 : decode cX5_heft 13 = .ok (.getfield 14, 3) := by decide +kernel
theorem dX5_heft_16 : decode cX5_heft 16 = .ok (.getfield 71, 3) := by decide +kernel
theorem dX5_heft_19 : decode cX5_heft 19 = .ok (.iload_n 1, 1) := by decide +kernel
theorem dX5_heft_20 : decode cX5_heft 20 = .ok (.iaload, 1) := by decide +kernel
theorem dX5_heft_21 : decode cX5_heft 21 = .ok (.iadd, 1) := by decide +kernel
theorem dX5_heft_22 : decode cX5_heft 22 = .ok (.ireturn, 1) := by decide +kernel
theorem dX5_roll_0 : decode cX5_roll 0 = .ok (.aload_n 0, 1) := by decide +kernel
theorem dX5_roll_1 : decode cX5_roll 1 = .ok (.ldc 109, 2) := by decide +kernel
theorem dX5_roll_3 : decode cX5_roll 3 = .ok (.aload_n 0, 1) := by decide +kernel
theorem dX5_roll_4 : decode cX5_roll 4 = .ok (.getfield 45, 3) := by decide +kernel
theorem dX5_roll_7 : decode cX5_roll 7 = .ok (.imul, 1) := by decide +kernel
theorem dX5_roll_8 : decode cX5_roll 8 = .ok (.ldc 110, 2) := by decide +kernel
theorem dX5_roll_10 : decode cX5_roll 10 = .ok (.iadd, 1) := by decide +kernel
theorem dX5_roll_11 : decode cX5_roll 11 = .ok (.putfield 45, 3) := by decide +kernel
theorem dX5_roll_14 : decode cX5_roll 14 = .ok (.iload_n 1, 1) := by decide +kernel
theorem dX5_roll_15 : decode cX5_roll 15 = .ok (.aload_n 0, 1) := by decide +kernel
theorem dX5_roll_16 : decode cX5_roll 16 = .ok (.getfield 45, 3) := by decide +kernel
theorem dX5_roll_19 : decode cX5_roll 19 = .ok (.bipush 30, 2) := by decide +kernel
theorem dX5_roll_21 : decode cX5_roll 21 = .ok (.iushr, 1) := by decide +kernel
theorem dX5_roll_22 : decode cX5_roll 22 = .ok (.imul, 1) := by decide +kernel
theorem dX5_roll_23 : decode cX5_roll 23 = .ok (.ireturn, 1) := by decide +kernel
theorem dX6_fits_0 : decode cX6_fits 0 = .ok (.iload_n 0, 1) := by decide +kernel
theorem dX6_fits_1 : decode cX6_fits 1 = .ok (.iconst (-1), 1) := by decide +kernel
theorem dX6_fits_2 : decode cX6_fits 2 = .ok (.if_icmp .eq 8, 3) := by decide +kernel
theorem dX6_fits_5 : decode cX6_fits 5 = .ok (.iload_n 0, 1) := by decide +kernel
theorem dX6_fits_6 : decode cX6_fits 6 = .ok (.iload_n 1, 1) := by decide +kernel
theorem dX6_fits_7 : decode cX6_fits 7 = .ok (.if_icmp .ne 7, 3) := by decide +kernel
theorem dX6_fits_10 : decode cX6_fits 10 = .ok (.iconst 1, 1) := by decide +kernel
theorem dX6_fits_11 : decode cX6_fits 11 = .ok (.goto 4, 3) := by decide +kernel
theorem dX6_fits_14 : decode cX6_fits 14 = .ok (.iconst 0, 1) := by decide +kernel
theorem dX6_fits_15 : decode cX6_fits 15 = .ok (.ireturn, 1) := by decide +kernel
theorem dX8_copyFrom_0 : decode cX8_copyFrom 0 = .ok (.aload_n 0, 1) := by decide +kernel
theorem dX8_copyFrom_1 : decode cX8_copyFrom 1 = .ok (.getfield 28, 3) := by decide +kernel
theorem dX8_copyFrom_4 : decode cX8_copyFrom 4 = .ok (.arraylength, 1) := by decide +kernel
theorem dX8_copyFrom_5 : decode cX8_copyFrom 5 = .ok (.aload_n 1, 1) := by decide +kernel
theorem dX8_copyFrom_6 : decode cX8_copyFrom 6 = .ok (.getfield 28, 3) := by decide +kernel
theorem dX8_copyFrom_9 : decode cX8_copyFrom 9 = .ok (.arraylength, 1) := by decide +kernel
theorem dX8_copyFrom_10 : decode cX8_copyFrom 10 = .ok (.invokestatic 41, 3) := by decide +kernel
theorem dX8_copyFrom_13 : decode cX8_copyFrom 13 = .ok (.istore_n 2, 1) := by decide +kernel
theorem dX8_copyFrom_14 : decode cX8_copyFrom 14 = .ok (.aload_n 1, 1) := by decide +kernel
theorem dX8_copyFrom_15 : decode cX8_copyFrom 15 = .ok (.getfield 28, 3) := by decide +kernel
theorem dX8_copyFrom_18 : decode cX8_copyFrom 18 = .ok (.iconst 0, 1) := by decide +kernel
theorem dX8_copyFrom_19 : decode cX8_copyFrom 19 = .ok (.aload_n 0, 1) := by decide +kernel
theorem dX8_copyFrom_20 : decode cX8_copyFrom 20 = .ok (.getfield 28, 3) := by decide +kernel
theorem dX8_copyFrom_23 : decode cX8_copyFrom 23 = .ok (.iconst 0, 1) := by decide +kernel
theorem dX8_copyFrom_24 : decode cX8_copyFrom 24 = .ok (.iload_n 2, 1) := by decide +kernel
theorem dX8_copyFrom_25 : decode cX8_copyFrom 25 = .ok (.invokestatic 44, 3) := by decide +kernel
theorem dX8_copyFrom_28 : decode cX8_copyFrom 28 = .ok (.aload_n 1, 1) := by decide +kernel
theorem dX8_copyFrom_29 : decode cX8_copyFrom 29 = .ok (.getfield 32, 3) := by decide +kernel
theorem dX8_copyFrom_32 : decode cX8_copyFrom 32 = .ok (.iconst 0, 1) := by decide +kernel
theorem dX8_copyFrom_33 : decode cX8_copyFrom 33 = .ok (.aload_n 0, 1) := by decide +kernel
theorem dX8_copyFrom_34 : decode cX8_copyFrom 34 = .ok (.getfield 32, 3) := by decide +kernel
theorem dX8_copyFrom_37 : decode cX8_copyFrom 37 = .ok (.iconst 0, 1) := by decide +kernel
theorem dX8_copyFrom_38 : decode cX8_copyFrom 38 = .ok (.iload_n 2, 1) := by decide +kernel
theorem dX8_copyFrom_39 : decode cX8_copyFrom 39 = .ok (.invokestatic 44, 3) := by decide +kernel
theorem dX8_copyFrom_42 : decode cX8_copyFrom 42 = .ok (.aload_n 1, 1) := by decide +kernel
theorem dX8_copyFrom_43 : decode cX8_copyFrom 43 = .ok (.getfield 35, 3) := by decide +kernel
theorem dX8_copyFrom_46 : decode cX8_copyFrom 46 = .ok (.iconst 0, 1) := by decide +kernel
theorem dX8_copyFrom_47 : decode cX8_copyFrom 47 = .ok (.aload_n 0, 1) := by decide +kernel
theorem dX8_copyFrom_48 : decode cX8_copyFrom 48 = .ok (.getfield 35, 3) := by decide +kernel
theorem dX8_copyFrom_51 : decode cX8_copyFrom 51 = .ok (.iconst 0, 1) := by decide +kernel
theorem dX8_copyFrom_52 : decode cX8_copyFrom 52 = .ok (.iload_n 2, 1) := by decide +kernel
theorem dX8_copyFrom_53 : decode cX8_copyFrom 53 = .ok (.invokestatic 44, 3) := by decide +kernel
theorem dX8_copyFrom_56 : decode cX8_copyFrom 56 = .ok (.aload_n 1, 1) := by decide +kernel
theorem dX8_copyFrom_57 : decode cX8_copyFrom 57 = .ok (.getfield 38, 3) := by decide +kernel
theorem dX8_copyFrom_60 : decode cX8_copyFrom 60 = .ok (.iconst 0, 1) := by decide +kernel
theorem dX8_copyFrom_61 : decode cX8_copyFrom 61 = .ok (.aload_n 0, 1) := by decide +kernel
theorem dX8_copyFrom_62 : decode cX8_copyFrom 62 = .ok (.getfield 38, 3) := by decide +kernel
theorem dX8_copyFrom_65 : decode cX8_copyFrom 65 = .ok (.iconst 0, 1) := by decide +kernel
theorem dX8_copyFrom_66 : decode cX8_copyFrom 66 = .ok (.iload_n 2, 1) := by decide +kernel
theorem dX8_copyFrom_67 : decode cX8_copyFrom 67 = .ok (.invokestatic 44, 3) := by decide +kernel
theorem dX8_copyFrom_70 : decode cX8_copyFrom 70 = .ok (.aload_n 0, 1) := by decide +kernel
theorem dX8_copyFrom_71 : decode cX8_copyFrom 71 = .ok (.aload_n 1, 1) := by decide +kernel
theorem dX8_copyFrom_72 : decode cX8_copyFrom 72 = .ok (.getfield 50, 3) := by decide +kernel
theorem dX8_copyFrom_75 : decode cX8_copyFrom 75 = .ok (.putfield 50, 3) := by decide +kernel
theorem dX8_copyFrom_78 : decode cX8_copyFrom 78 = .ok (.return_, 1) := by decide +kernel
theorem dX8_wetAt_0 : decode cX8_wetAt 0 = .ok (.aload_n 0, 1) := by decide +kernel
theorem dX8_wetAt_1 : decode cX8_wetAt 1 = .ok (.getfield 28, 3) := by decide +kernel
theorem dX8_wetAt_4 : decode cX8_wetAt 4 = .ok (.iload_n 1, 1) := by decide +kernel
theorem dX8_wetAt_5 : decode cX8_wetAt 5 = .ok (.iaload, 1) := by decide +kernel
theorem dX8_wetAt_6 : decode cX8_wetAt 6 = .ok (.ifCond .le 19, 3) := by decide +kernel
theorem dX8_wetAt_9 : decode cX8_wetAt 9 = .ok (.aload_n 0, 1) := by decide +kernel
theorem dX8_wetAt_10 : decode cX8_wetAt 10 = .ok (.getfield 32, 3) := by decide +kernel
theorem dX8_wetAt_13 : decode cX8_wetAt 13 = .ok (.iload_n 1, 1) := by decide +kernel
theorem dX8_wetAt_14 : decode cX8_wetAt 14 = .ok (.iaload, 1) := by decide +kernel
theorem dX8_wetAt_15 : decode cX8_wetAt 15 = .ok (.aload_n 0, 1) := by decide +kernel
theorem dX8_wetAt_16 : decode cX8_wetAt 16 = .ok (.getfield 28, 3) := by decide +kernel
theorem dX8_wetAt_19 : decode cX8_wetAt 19 = .ok (.iload_n 1, 1) := by decide +kernel
theorem dX8_wetAt_20 : decode cX8_wetAt 20 = .ok (.iaload, 1) := by decide +kernel
theorem dX8_wetAt_21 : decode cX8_wetAt 21 = .ok (.idiv, 1) := by decide +kernel
theorem dX8_wetAt_22 : decode cX8_wetAt 22 = .ok (.goto 4, 3) := by decide +kernel
theorem dX8_wetAt_25 : decode cX8_wetAt 25 = .ok (.iconst 0, 1) := by decide +kernel
theorem dX8_wetAt_26 : decode cX8_wetAt 26 = .ok (.ireturn, 1) := by decide +kernel
theorem dX8_cellsWithOre_0 : decode cX8_cellsWithOre 0 = .ok (.iconst 0, 1) := by decide +kernel
theorem dX8_cellsWithOre_1 : decode cX8_cellsWithOre 1 = .ok (.istore_n 1, 1) := by decide +kernel
theorem dX8_cellsWithOre_2 : decode cX8_cellsWithOre 2 = .ok (.iconst 0, 1) := by decide +kernel
theorem dX8_cellsWithOre_3 : decode cX8_cellsWithOre 3 = .ok (.istore_n 2, 1) := by decide +kernel
theorem dX8_cellsWithOre_4 : decode cX8_cellsWithOre 4 = .ok (.iload_n 2, 1) := by decide +kernel
theorem dX8_cellsWithOre_5 : decode cX8_cellsWithOre 5 = .ok (.aload_n 0, 1) := by decide +kernel
theorem dX8_cellsWithOre_6 : decode cX8_cellsWithOre 6 = .ok (.getfield 28, 3) := by decide +kernel
theorem dX8_cellsWithOre_9 : decode cX8_cellsWithOre 9 = .ok (.arraylength, 1) := by decide +kernel
theorem dX8_cellsWithOre_10 : decode cX8_cellsWithOre 10 = .ok (.if_icmp .ge 26, 3) := by decide +kernel
theorem dX8_cellsWithOre_13 : decode cX8_cellsWithOre 13 = .ok (.iload_n 1, 1) := by decide +kernel
theorem dX8_cellsWithOre_14 : decode cX8_cellsWithOre 14 = .ok (.aload_n 0, 1) := by decide +kernel
theorem dX8_cellsWithOre_15 : decode cX8_cellsWithOre 15 = .ok (.getfield 28, 3) := by decide +kernel
theorem dX8_cellsWithOre_18 : decode cX8_cellsWithOre 18 = .ok (.iload_n 2, 1) := by decide +kernel
theorem dX8_cellsWithOre_19 : decode cX8_cellsWithOre 19 = .ok (.iaload, 1) := by decide +kernel
theorem dX8_cellsWithOre_20 : decode cX8_cellsWithOre 20 = .ok (.ifCond .le 7, 3) := by decide +kernel
theorem dX8_cellsWithOre_23 : decode cX8_cellsWithOre 23 = .ok (.iconst 1, 1) := by decide +kernel
theorem dX8_cellsWithOre_24 : decode cX8_cellsWithOre 24 = .ok (.goto 4, 3) := by decide +kernel
theorem dX8_cellsWithOre_27 : decode cX8_cellsWithOre 27 = .ok (.iconst 0, 1) := by decide +kernel
theorem dX8_cellsWithOre_28 : decode cX8_cellsWithOre 28 = .ok (.iadd, 1) := by decide +kernel
theorem dX8_cellsWithOre_29 : decode cX8_cellsWithOre 29 = .ok (.istore_n 1, 1) := by decide +kernel
theorem dX8_cellsWithOre_30 : decode cX8_cellsWithOre 30 = .ok (.iinc 2 1, 3) := by decide +kernel
theorem dX8_cellsWithOre_33 : decode cX8_cellsWithOre 33 = .ok (.goto (-29), 3) := by decide +kernel
theorem dX8_cellsWithOre_36 : decode cX8_cellsWithOre 36 = .ok (.iload_n 1, 1) := by decide +kernel
theorem dX8_cellsWithOre_37 : decode cX8_cellsWithOre 37 = .ok (.ireturn, 1) := by decide +kernel
theorem dX8_cellsOfSoup_0 : decode cX8_cellsOfSoup 0 = .ok (.iconst 0, 1) := by decide +kernel
theorem dX8_cellsOfSoup_1 : decode cX8_cellsOfSoup 1 = .ok (.istore_n 1, 1) := by decide +kernel
theorem dX8_cellsOfSoup_2 : decode cX8_cellsOfSoup 2 = .ok (.iconst 0, 1) := by decide +kernel
theorem dX8_cellsOfSoup_3 : decode cX8_cellsOfSoup 3 = .ok (.istore_n 2, 1) := by decide +kernel
theorem dX8_cellsOfSoup_4 : decode cX8_cellsOfSoup 4 = .ok (.iload_n 2, 1) := by decide +kernel
theorem dX8_cellsOfSoup_5 : decode cX8_cellsOfSoup 5 = .ok (.aload_n 0, 1) := by decide +kernel
theorem dX8_cellsOfSoup_6 : decode cX8_cellsOfSoup 6 = .ok (.getfield 38, 3) := by decide +kernel
theorem dX8_cellsOfSoup_9 : decode cX8_cellsOfSoup 9 = .ok (.arraylength, 1) := by decide +kernel
theorem dX8_cellsOfSoup_10 : decode cX8_cellsOfSoup 10 = .ok (.if_icmp .ge 18, 3) := by decide +kernel
theorem dX8_cellsOfSoup_13 : decode cX8_cellsOfSoup 13 = .ok (.iload_n 1, 1) := by decide +kernel
theorem dX8_cellsOfSoup_14 : decode cX8_cellsOfSoup 14 = .ok (.aload_n 0, 1) := by decide +kernel
theorem dX8_cellsOfSoup_15 : decode cX8_cellsOfSoup 15 = .ok (.getfield 38, 3) := by decide +kernel
theorem dX8_cellsOfSoup_18 : decode cX8_cellsOfSoup 18 = .ok (.iload_n 2, 1) := by decide +kernel
theorem dX8_cellsOfSoup_19 : decode cX8_cellsOfSoup 19 = .ok (.iaload, 1) := by decide +kernel
theorem dX8_cellsOfSoup_20 : decode cX8_cellsOfSoup 20 = .ok (.iadd, 1) := by decide +kernel
theorem dX8_cellsOfSoup_21 : decode cX8_cellsOfSoup 21 = .ok (.istore_n 1, 1) := by decide +kernel
theorem dX8_cellsOfSoup_22 : decode cX8_cellsOfSoup 22 = .ok (.iinc 2 1, 3) := by decide +kernel
theorem dX8_cellsOfSoup_25 : decode cX8_cellsOfSoup 25 = .ok (.goto (-21), 3) := by decide +kernel
theorem dX8_cellsOfSoup_28 : decode cX8_cellsOfSoup 28 = .ok (.iload_n 1, 1) := by decide +kernel
theorem dX8_cellsOfSoup_29 : decode cX8_cellsOfSoup 29 = .ok (.ireturn, 1) := by decide +kernel
theorem dX8_pour_0 : decode cX8_pour 0 = .ok (.aload_n 0, 1) := by decide +kernel
theorem dX8_pour_1 : decode cX8_pour 1 = .ok (.getfield 32, 3) := by decide +kernel
theorem dX8_pour_4 : decode cX8_pour 4 = .ok (.iload_n 1, 1) := by decide +kernel
theorem dX8_pour_5 : decode cX8_pour 5 = .ok (.iaload, 1) := by decide +kernel
theorem dX8_pour_6 : decode cX8_pour 6 = .ok (.iload_n 2, 1) := by decide +kernel
theorem dX8_pour_7 : decode cX8_pour 7 = .ok (.iadd, 1) := by decide +kernel
theorem dX8_pour_8 : decode cX8_pour 8 = .ok (.istore_n 3, 1) := by decide +kernel
theorem dX8_pour_9 : decode cX8_pour 9 = .ok (.aload_n 0, 1) := by decide +kernel
theorem dX8_pour_10 : decode cX8_pour 10 = .ok (.getfield 32, 3) := by decide +kernel
theorem dX8_pour_13 : decode cX8_pour 13 = .ok (.iload_n 1, 1) := by decide +kernel
theorem dX8_pour_14 : decode cX8_pour 14 = .ok (.iload_n 3, 1) := by decide +kernel
theorem dX8_pour_15 : decode cX8_pour 15 = .ok (.sipush 9999, 3) := by decide +kernel
theorem dX8_pour_18 : decode cX8_pour 18 = .ok (.invokestatic 41, 3) := by decide +kernel
theorem dX8_pour_21 : decode cX8_pour 21 = .ok (.iastore, 1) := by decide +kernel
theorem dX8_pour_22 : decode cX8_pour 22 = .ok (.aload_n 0, 1) := by decide +kernel
theorem dX8_pour_23 : decode cX8_pour 23 = .ok (.dup, 1) := by decide +kernel
theorem dX8_pour_24 : decode cX8_pour 24 = .ok (.getfield 50, 3) := by decide +kernel
theorem dX8_pour_27 : decode cX8_pour 27 = .ok (.iload_n 3, 1) := by decide +kernel
theorem dX8_pour_28 : decode cX8_pour 28 = .ok (.aload_n 0, 1) := by decide +kernel
theorem dX8_pour_29 : decode cX8_pour 29 = .ok (.getfield 32, 3) := by decide +kernel
theorem dX8_pour_32 : decode cX8_pour 32 = .ok (.iload_n 1, 1) := by decide +kernel
theorem dX8_pour_33 : decode cX8_pour 33 = .ok (.iaload, 1) := by decide +kernel
theorem dX8_pour_34 : decode cX8_pour 34 = .ok (.isub, 1) := by decide +kernel
theorem dX8_pour_35 : decode cX8_pour 35 = .ok (.iadd, 1) := by decide +kernel
theorem dX8_pour_36 : decode cX8_pour 36 = .ok (.putfield 50, 3) := by decide +kernel
theorem dX8_pour_39 : decode cX8_pour 39 = .ok (.return_, 1) := by decide +kernel
theorem dX8_shake_0 : decode cX8_shake 0 = .ok (.iconst 0, 1) := by decide +kernel
theorem dX8_shake_1 : decode cX8_shake 1 = .ok (.istore_n 2, 1) := by decide +kernel
theorem dX8_shake_2 : decode cX8_shake 2 = .ok (.iload_n 2, 1) := by decide +kernel
theorem dX8_shake_3 : decode cX8_shake 3 = .ok (.aload_n 0, 1) := by decide +kernel
theorem dX8_shake_4 : decode cX8_shake 4 = .ok (.getfield 28, 3) := by decide +kernel
theorem dX8_shake_7 : decode cX8_shake 7 = .ok (.arraylength, 1) := by decide +kernel
theorem dX8_shake_8 : decode cX8_shake 8 = .ok (.if_icmp .ge 38, 3) := by decide +kernel
theorem dX8_shake_11 : decode cX8_shake 11 = .ok (.aload_n 0, 1) := by decide +kernel
theorem dX8_shake_12 : decode cX8_shake 12 = .ok (.getfield 28, 3) := by decide +kernel
theorem dX8_shake_15 : decode cX8_shake 15 = .ok (.iload_n 2, 1) := by decide +kernel
theorem dX8_shake_16 : decode cX8_shake 16 = .ok (.iaload, 1) := by decide +kernel
theorem dX8_shake_17 : decode cX8_shake 17 = .ok (.ifCond .le 23, 3) := by decide +kernel
theorem dX8_shake_20 : decode cX8_shake 20 = .ok (.aload_n 0, 1) := by decide +kernel
theorem dX8_shake_21 : decode cX8_shake 21 = .ok (.getfield 35, 3) := by decide +kernel
theorem dX8_shake_24 : decode cX8_shake 24 = .ok (.iload_n 2, 1) := by decide +kernel
theorem dX8_shake_25 : decode cX8_shake 25 = .ok (.aload_n 0, 1) := by decide +kernel
theorem dX8_shake_26 : decode cX8_shake 26 = .ok (.getfield 35, 3) := by decide +kernel
theorem dX8_shake_29 : decode cX8_shake 29 = .ok (.iload_n 2, 1) := by decide +kernel
theorem dX8_shake_30 : decode cX8_shake 30 = .ok (.iaload, 1) := by decide +kernel
theorem dX8_shake_31 : decode cX8_shake 31 = .ok (.iload_n 1, 1) := by decide +kernel
theorem dX8_shake_32 : decode cX8_shake 32 = .ok (.iadd, 1) := by decide +kernel
theorem dX8_shake_33 : decode cX8_shake 33 = .ok (.sipush 9999, 3) := by decide +kernel
theorem dX8_shake_36 : decode cX8_shake 36 = .ok (.invokestatic 41, 3) := by decide +kernel
theorem dX8_shake_39 : decode cX8_shake 39 = .ok (.iastore, 1) := by decide +kernel
theorem dX8_shake_40 : decode cX8_shake 40 = .ok (.iinc 2 1, 3) := by decide +kernel
theorem dX8_shake_43 : decode cX8_shake 43 = .ok (.goto (-41), 3) := by decide +kernel
theorem dX8_shake_46 : decode cX8_shake 46 = .ok (.return_, 1) := by decide +kernel
theorem dX9_clear_0 : decode cX9_clear 0 = .ok (.aload_n 0, 1) := by decide +kernel
theorem dX9_clear_1 : decode cX9_clear 1 = .ok (.iconst 0, 1) := by decide +kernel
theorem dX9_clear_2 : decode cX9_clear 2 = .ok (.putfield 30, 3) := by decide +kernel
theorem dX9_clear_5 : decode cX9_clear 5 = .ok (.aload_n 0, 1) := by decide +kernel
theorem dX9_clear_6 : decode cX9_clear 6 = .ok (.iconst 0, 1) := by decide +kernel
theorem dX9_clear_7 : decode cX9_clear 7 = .ok (.putfield 34, 3) := by decide +kernel
theorem dX9_clear_10 : decode cX9_clear 10 = .ok (.return_, 1) := by decide +kernel
theorem dX9_beginLine_0 : decode cX9_beginLine 0 = .ok (.aload_n 0, 1) := by decide +kernel
theorem dX9_beginLine_1 : decode cX9_beginLine 1 = .ok (.getfield 30, 3) := by decide +kernel
theorem dX9_beginLine_4 : decode cX9_beginLine 4 = .ok (.bipush 16, 2) := by decide +kernel
theorem dX9_beginLine_6 : decode cX9_beginLine 6 = .ok (.if_icmp .ge 23, 3) := by decide +kernel
theorem dX9_beginLine_9 : decode cX9_beginLine 9 = .ok (.aload_n 0, 1) := by decide +kernel
theorem dX9_beginLine_10 : decode cX9_beginLine 10 = .ok (.getfield 15, 3) := by decide +kernel
theorem dX9_beginLine_13 : decode cX9_beginLine 13 = .ok (.aload_n 0, 1) := by decide +kernel
theorem dX9_beginLine_14 : decode cX9_beginLine 14 = .ok (.getfield 30, 3) := by decide +kernel
theorem dX9_beginLine_17 : decode cX9_beginLine 17 = .ok (.iload_n 1, 1) := by decide +kernel
theorem dX9_beginLine_18 : decode cX9_beginLine 18 = .ok (.iastore, 1) := by decide +kernel
theorem dX9_beginLine_19 : decode cX9_beginLine 19 = .ok (.aload_n 0, 1) := by decide +kernel
theorem dX9_beginLine_20 : decode cX9_beginLine 20 = .ok (.getfield 18, 3) := by decide +kernel
theorem dX9_beginLine_23 : decode cX9_beginLine 23 = .ok (.aload_n 0, 1) := by decide +kernel
theorem dX9_beginLine_24 : decode cX9_beginLine 24 = .ok (.getfield 30, 3) := by decide +kernel
theorem dX9_beginLine_27 : decode cX9_beginLine 27 = .ok (.iload_n 2, 1) := by decide +kernel
theorem dX9_beginLine_28 : decode cX9_beginLine 28 = .ok (.iastore, 1) := by decide +kernel
theorem dX9_beginLine_29 : decode cX9_beginLine 29 = .ok (.return_, 1) := by decide +kernel
theorem dX9_beginWhen_0 : decode cX9_beginWhen 0 = .ok (.aload_n 0, 1) := by decide +kernel
theorem dX9_beginWhen_1 : decode cX9_beginWhen 1 = .ok (.getfield 30, 3) := by decide +kernel
theorem dX9_beginWhen_4 : decode cX9_beginWhen 4 = .ok (.bipush 16, 2) := by decide +kernel
theorem dX9_beginWhen_6 : decode cX9_beginWhen 6 = .ok (.if_icmp .ge 16, 3) := by decide +kernel
theorem dX9_beginWhen_9 : decode cX9_beginWhen 9 = .ok (.aload_n 0, 1) := by decide +kernel
theorem dX9_beginWhen_10 : decode cX9_beginWhen 10 = .ok (.getfield 21, 3) := by decide +kernel
theorem dX9_beginWhen_13 : decode cX9_beginWhen 13 = .ok (.aload_n 0, 1) := by decide +kernel
theorem dX9_beginWhen_14 : decode cX9_beginWhen 14 = .ok (.getfield 30, 3) := by decide +kernel
theorem dX9_beginWhen_17 : decode cX9_beginWhen 17 = .ok (.aload_n 0, 1) := by decide +kernel
theorem dX9_beginWhen_18 : decode cX9_beginWhen 18 = .ok (.getfield 34, 3) := by decide +kernel
theorem dX9_beginWhen_21 : decode cX9_beginWhen 21 = .ok (.iastore, 1) := by decide +kernel
theorem dX9_beginWhen_22 : decode cX9_beginWhen 22 = .ok (.return_, 1) := by decide +kernel
theorem dX9_endLine_0 : decode cX9_endLine 0 = .ok (.aload_n 0, 1) := by decide +kernel
theorem dX9_endLine_1 : decode cX9_endLine 1 = .ok (.getfield 30, 3) := by decide +kernel
theorem dX9_endLine_4 : decode cX9_endLine 4 = .ok (.bipush 16, 2) := by decide +kernel
theorem dX9_endLine_6 : decode cX9_endLine 6 = .ok (.if_icmp .ge 26, 3) := by decide +kernel
theorem dX9_endLine_9 : decode cX9_endLine 9 = .ok (.aload_n 0, 1) := by decide +kernel
theorem dX9_endLine_10 : decode cX9_endLine 10 = .ok (.getfield 24, 3) := by decide +kernel
theorem dX9_endLine_13 : decode cX9_endLine 13 = .ok (.aload_n 0, 1) := by decide +kernel
theorem dX9_endLine_14 : decode cX9_endLine 14 = .ok (.getfield 30, 3) := by decide +kernel
theorem dX9_endLine_17 : decode cX9_endLine 17 = .ok (.aload_n 0, 1) := by decide +kernel
theorem dX9_endLine_18 : decode cX9_endLine 18 = .ok (.getfield 34, 3) := by decide +kernel
theorem dX9_endLine_21 : decode cX9_endLine 21 = .ok (.iastore, 1) := by decide +kernel
theorem dX9_endLine_22 : decode cX9_endLine 22 = .ok (.aload_n 0, 1) := by decide +kernel
theorem dX9_endLine_23 : decode cX9_endLine 23 = .ok (.dup, 1) := by decide +kernel
theorem dX9_endLine_24 : decode cX9_endLine 24 = .ok (.getfield 30, 3) := by decide +kernel
theorem dX9_endLine_27 : decode cX9_endLine 27 = .ok (.iconst 1, 1) := by decide +kernel
theorem dX9_endLine_28 : decode cX9_endLine 28 = .ok (.iadd, 1) := by decide +kernel
theorem dX9_endLine_29 : decode cX9_endLine 29 = .ok (.putfield 30, 3) := by decide +kernel
theorem dX9_endLine_32 : decode cX9_endLine 32 = .ok (.return_, 1) := by decide +kernel
theorem dX9_add_0 : decode cX9_add 0 = .ok (.aload_n 0, 1) := by decide +kernel
theorem dX9_add_1 : decode cX9_add 1 = .ok (.getfield 34, 3) := by decide +kernel
theorem dX9_add_4 : decode cX9_add 4 = .ok (.sipush 600, 3) := by decide +kernel
theorem dX9_add_7 : decode cX9_add 7 = .ok (.if_icmp .ge 29, 3) := by decide +kernel
theorem dX9_add_10 : decode cX9_add 10 = .ok (.aload_n 0, 1) := by decide +kernel
theorem dX9_add_11 : decode cX9_add 11 = .ok (.getfield 9, 3) := by decide +kernel
theorem dX9_add_14 : decode cX9_add 14 = .ok (.aload_n 0, 1) := by decide +kernel
theorem dX9_add_15 : decode cX9_add 15 = .ok (.getfield 34, 3) := by decide +kernel
theorem dX9_add_18 : decode cX9_add 18 = .ok (.iload_n 1, 1) := by decide +kernel
theorem dX9_add_19 : decode cX9_add 19 = .ok (.sipush 16384, 3) := by decide +kernel
theorem dX9_add_22 : decode cX9_add 22 = .ok (.imul, 1) := by decide +kernel
theorem dX9_add_23 : decode cX9_add 23 = .ok (.iload_n 2, 1) := by decide +kernel
theorem dX9_add_24 : decode cX9_add 24 = .ok (.iadd, 1) := by decide +kernel
theorem dX9_add_25 : decode cX9_add 25 = .ok (.iastore, 1) := by decide +kernel
theorem dX9_add_26 : decode cX9_add 26 = .ok (.aload_n 0, 1) := by decide +kernel
theorem dX9_add_27 : decode cX9_add 27 = .ok (.dup, 1) := by decide +kernel
theorem dX9_add_28 : decode cX9_add 28 = .ok (.getfield 34, 3) := by decide +kernel
theorem dX9_add_31 : decode cX9_add 31 = .ok (.iconst 1, 1) := by decide +kernel
theorem dX9_add_32 : decode cX9_add 32 = .ok (.iadd, 1) := by decide +kernel
theorem dX9_add_33 : decode cX9_add 33 = .ok (.putfield 34, 3) := by decide +kernel
theorem dX9_add_36 : decode cX9_add 36 = .ok (.return_, 1) := by decide +kernel
theorem dX9_work_0 : decode cX9_work 0 = .ok (.iconst 2, 1) := by decide +kernel
theorem dX9_work_1 : decode cX9_work 1 = .ok (.istore 4, 2) := by decide +kernel
theorem dX9_work_3 : decode cX9_work 3 = .ok (.iconst 0, 1) := by decide +kernel
theorem dX9_work_4 : decode cX9_work 4 = .ok (.iload_n 1, 1) := by decide +kernel
theorem dX9_work_5 : decode cX9_work 5 = .ok (.invokestatic 45, 3) := by decide +kernel
theorem dX9_work_8 : decode cX9_work 8 = .ok (.istore 5, 2) := by decide +kernel
theorem dX9_work_10 : decode cX9_work 10 = .ok (.iload 5, 2) := by decide +kernel
theorem dX9_work_12 : decode cX9_work 12 = .ok (.iload_n 2, 1) := by decide +kernel
theorem dX9_work_13 : decode cX9_work 13 = .ok (.if_icmp .ge 335, 3) := by decide +kernel
theorem dX9_work_16 : decode cX9_work 16 = .ok (.iload 5, 2) := by decide +kernel
theorem dX9_work_18 : decode cX9_work 18 = .ok (.sipush 600, 3) := by decide +kernel
theorem dX9_work_21 : decode cX9_work 21 = .ok (.if_icmp .ge 327, 3) := by decide +kernel
theorem dX9_work_24 : decode cX9_work 24 = .ok (.iload 4, 2) := by decide +kernel
theorem dX9_work_26 : decode cX9_work 26 = .ok (.iconst 2, 1) := by decide +kernel
theorem dX9_work_27 : decode cX9_work 27 = .ok (.if_icmp .lt 10, 3) := by decide +kernel
theorem dX9_work_30 : decode cX9_work 30 = .ok (.iload 4, 2) := by decide +kernel
theorem dX9_work_32 : decode cX9_work 32 = .ok (.bipush 32, 2) := by decide +kernel
theorem dX9_work_34 : decode cX9_work 34 = .ok (.if_icmp .lt 5, 3) := by decide +kernel
theorem dX9_work_37 : decode cX9_work 37 = .ok (.iconst 0, 1) := by decide +kernel
theorem dX9_work_38 : decode cX9_work 38 = .ok (.ireturn, 1) := by decide +kernel
theorem dX9_work_39 : decode cX9_work 39 = .ok (.aload_n 0, 1) := by decide +kernel
theorem dX9_work_40 : decode cX9_work 40 = .ok (.getfield 9, 3) := by decide +kernel
theorem dX9_work_43 : decode cX9_work 43 = .ok (.iload 5, 2) := by decide +kernel
theorem dX9_work_45 : decode cX9_work 45 = .ok (.iaload, 1) := by decide +kernel
theorem dX9_work_46 : decode cX9_work 46 = .ok (.sipush 16384, 3) := by decide +kernel
theorem dX9_work_49 : decode cX9_work 49 = .ok (.idiv, 1) := by decide +kernel
theorem dX9_work_50 : decode cX9_work 50 = .ok (.istore 6, 2) := by decide +kernel
theorem dX9_work_52 : decode cX9_work 52 = .ok (.aload_n 0, 1) := by decide +kernel
theorem dX9_work_53 : decode cX9_work 53 = .ok (.getfield 9, 3) := by decide +kernel
theorem dX9_work_56 : decode cX9_work 56 = .ok (.iload 5, 2) := by decide +kernel
theorem dX9_work_58 : decode cX9_work 58 = .ok (.iaload, 1) := by decide +kernel
theorem dX9_work_59 : decode cX9_work 59 = .ok (.sipush 16384, 3) := by decide +kernel
theorem dX9_work_62 : decode cX9_work 62 = .ok (.irem, 1) := by decide +kernel
theorem dX9_work_63 : decode cX9_work 63 = .ok (.istore 7, 2) := by decide +kernel
theorem dX9_work_65 : decode cX9_work 65 = .ok (.aload_n 0, 1) := by decide +kernel
theorem dX9_work_66 : decode cX9_work 66 = .ok (.getfield 27, 3) := by decide +kernel
theorem dX9_work_69 : decode cX9_work 69 = .ok (.iload 4, 2) := by decide +kernel
theorem dX9_work_71 : decode cX9_work 71 = .ok (.iconst 2, 1) := by decide +kernel
theorem dX9_work_72 : decode cX9_work 72 = .ok (.isub, 1) := by decide +kernel
theorem dX9_work_73 : decode cX9_work 73 = .ok (.iaload, 1) := by decide +kernel
theorem dX9_work_74 : decode cX9_work 74 = .ok (.istore 8, 2) := by decide +kernel
theorem dX9_work_76 : decode cX9_work 76 = .ok (.aload_n 0, 1) := by decide +kernel
theorem dX9_work_77 : decode cX9_work 77 = .ok (.getfield 27, 3) := by decide +kernel
theorem dX9_work_80 : decode cX9_work 80 = .ok (.iload 4, 2) := by decide +kernel
theorem dX9_work_82 : decode cX9_work 82 = .ok (.iconst 1, 1) := by decide +kernel
theorem dX9_work_83 : decode cX9_work 83 = .ok (.isub, 1) := by decide +kernel
theorem dX9_work_84 : decode cX9_work 84 = .ok (.iaload, 1) := by decide +kernel
theorem dX9_work_85 : decode cX9_work 85 = .ok (.istore 9, 2) := by decide +kernel
theorem dX9_work_87 : decode cX9_work 87 = .ok (.iconst 0, 1) := by decide +kernel
theorem dX9_work_88 : decode cX9_work 88 = .ok (.istore 10, 2) := by decide +kernel
theorem dX9_work_90 : decode cX9_work 90 = .ok (.iload 6, 2) := by decide +kernel
theorem dX9_work_92 : decode cX9_work 92 = .ok (.tableswitch 206 0 10 #[60, 67, 87, 106, 115, 125, 135, 145, 162, 179, 196], 60) := by decide +kernel
theorem dX9_work_152 : decode cX9_work 152 = .ok (.iload 7, 2) := by decide +kernel
theorem dX9_work_154 : decode cX9_work 154 = .ok (.istore 10, 2) := by decide +kernel
theorem dX9_work_156 : decode cX9_work 156 = .ok (.goto 149, 3) := by decide +kernel
theorem dX9_work_159 : decode cX9_work 159 = .ok (.iload 7, 2) := by decide +kernel
theorem dX9_work_161 : decode cX9_work 161 = .ok (.aload_n 3, 1) := by decide +kernel
theorem dX9_work_162 : decode cX9_work 162 = .ok (.arraylength, 1) := by decide +kernel
theorem dX9_work_163 : decode cX9_work 163 = .ok (.if_icmp .ge 10, 3) := by decide +kernel
theorem dX9_work_166 : decode cX9_work 166 = .ok (.aload_n 3, 1) := by decide +kernel
theorem dX9_work_167 : decode cX9_work 167 = .ok (.iload 7, 2) := by decide +kernel
theorem dX9_work_169 : decode cX9_work 169 = .ok (.iaload, 1) := by decide +kernel
theorem dX9_work_170 : decode cX9_work 170 = .ok (.goto 4, 3) := by decide +kernel
theorem dX9_work_173 : decode cX9_work 173 = .ok (.iconst 0, 1) := by decide +kernel
theorem dX9_work_174 : decode cX9_work 174 = .ok (.istore 10, 2) := by decide +kernel
theorem dX9_work_176 : decode cX9_work 176 = .ok (.goto 129, 3) := by decide +kernel
theorem dX9_work_179 : decode cX9_work 179 = .ok (.iload 7, 2) := by decide +kernel
theorem dX9_work_181 : decode cX9_work 181 = .ok (.ifCond .ne 7, 3) := by decide +kernel
theorem dX9_work_184 : decode cX9_work 184 = .ok (.iconst 0, 1) := by decide +kernel
theorem dX9_work_185 : decode cX9_work 185 = .ok (.goto 8, 3) := by decide +kernel
theorem dX9_work_188 : decode cX9_work 188 = .ok (.iload 9, 2) := by decide +kernel
theorem dX9_work_190 : decode cX9_work 190 = .ok (.iload 7, 2) := by decide +kernel
theorem dX9_work_192 : decode cX9_work 192 = .ok (.idiv, 1) := by decide +kernel
theorem dX9_work_193 : decode cX9_work 193 = .ok (.istore 10, 2) := by decide +kernel
theorem dX9_work_195 : decode cX9_work 195 = .ok (.goto 110, 3) := by decide +kernel
theorem dX9_work_198 : decode cX9_work 198 = .ok (.iconst 1, 1) := by decide +kernel
theorem dX9_work_199 : decode cX9_work 199 = .ok (.iload 9, 2) := by decide +kernel
theorem dX9_work_201 : decode cX9_work 201 = .ok (.isub, 1) := by decide +kernel
theorem dX9_work_202 : decode cX9_work 202 = .ok (.istore 10, 2) := by decide +kernel
theorem dX9_work_204 : decode cX9_work 204 = .ok (.goto 101, 3) := by decide +kernel
theorem dX9_work_207 : decode cX9_work 207 = .ok (.iload 8, 2) := by decide +kernel
theorem dX9_work_209 : decode cX9_work 209 = .ok (.iload 9, 2) := by decide +kernel
theorem dX9_work_211 : decode cX9_work 211 = .ok (.iadd, 1) := by decide +kernel
theorem dX9_work_212 : decode cX9_work 212 = .ok (.istore 10, 2) := by decide +kernel
theorem dX9_work_214 : decode cX9_work 214 = .ok (.goto 91, 3) := by decide +kernel
theorem dX9_work_217 : decode cX9_work 217 = .ok (.iload 8, 2) := by decide +kernel
theorem dX9_work_219 : decode cX9_work 219 = .ok (.iload 9, 2) := by decide +kernel
theorem dX9_work_221 : decode cX9_work 221 = .ok (.isub, 1) := by decide +kernel
theorem dX9_work_222 : decode cX9_work 222 = .ok (.istore 10, 2) := by decide +kernel
theorem dX9_work_224 : decode cX9_work 224 = .ok (.goto 81, 3) := by decide +kernel
theorem dX9_work_227 : decode cX9_work 227 = .ok (.iload 8, 2) := by decide +kernel
theorem dX9_work_229 : decode cX9_work 229 = .ok (.iload 9, 2) := by decide +kernel
theorem dX9_work_231 : decode cX9_work 231 = .ok (.imul, 1) := by decide +kernel
theorem dX9_work_232 : decode cX9_work 232 = .ok (.istore 10, 2) := by decide +kernel
theorem dX9_work_234 : decode cX9_work 234 = .ok (.goto 71, 3) := by decide +kernel
theorem dX9_work_237 : decode cX9_work 237 = .ok (.iload 8, 2) := by decide +kernel
theorem dX9_work_239 : decode cX9_work 239 = .ok (.iload 9, 2) := by decide +kernel
theorem dX9_work_241 : decode cX9_work 241 = .ok (.if_icmp .ge 7, 3) := by decide +kernel
theorem dX9_work_244 : decode cX9_work 244 = .ok (.iconst 1, 1) := by decide +kernel
theorem dX9_work_245 : decode cX9_work 245 = .ok (.goto 4, 3) := by decide +kernel
theorem dX9_work_248 : decode cX9_work 248 = .ok (.iconst 0, 1) := by decide +kernel
theorem dX9_work_249 : decode cX9_work 249 = .ok (.istore 10, 2) := by decide +kernel
theorem dX9_work_251 : decode cX9_work 251 = .ok (.goto 54, 3) := by decide +kernel
theorem dX9_work_254 : decode cX9_work 254 = .ok (.iload 8, 2) := by decide +kernel
theorem dX9_work_256 : decode cX9_work 256 = .ok (.iload 9, 2) := by decide +kernel
theorem dX9_work_258 : decode cX9_work 258 = .ok (.if_icmp .ne 7, 3) := by decide +kernel
theorem dX9_work_261 : decode cX9_work 261 = .ok (.iconst 1, 1) := by decide +kernel
theorem dX9_work_262 : decode cX9_work 262 = .ok (.goto 4, 3) := by decide +kernel
theorem dX9_work_265 : decode cX9_work 265 = .ok (.iconst 0, 1) := by decide +kernel
theorem dX9_work_266 : decode cX9_work 266 = .ok (.istore 10, 2) := by decide +kernel
theorem dX9_work_268 : decode cX9_work 268 = .ok (.goto 37, 3) := by decide +kernel
theorem dX9_work_271 : decode cX9_work 271 = .ok (.iload 8, 2) := by decide +kernel
theorem dX9_work_273 : decode cX9_work 273 = .ok (.iload 9, 2) := by decide +kernel
theorem dX9_work_275 : decode cX9_work 275 = .ok (.if_icmp .le 7, 3) := by decide +kernel
theorem dX9_work_278 : decode cX9_work 278 = .ok (.iconst 1, 1) := by decide +kernel
theorem dX9_work_279 : decode cX9_work 279 = .ok (.goto 4, 3) := by decide +kernel
theorem dX9_work_282 : decode cX9_work 282 = .ok (.iconst 0, 1) := by decide +kernel
theorem dX9_work_283 : decode cX9_work 283 = .ok (.istore 10, 2) := by decide +kernel
theorem dX9_work_285 : decode cX9_work 285 = .ok (.goto 20, 3) := by decide +kernel
theorem dX9_work_288 : decode cX9_work 288 = .ok (.iload 8, 2) := by decide +kernel
theorem dX9_work_290 : decode cX9_work 290 = .ok (.iload 9, 2) := by decide +kernel
theorem dX9_work_292 : decode cX9_work 292 = .ok (.iand, 1) := by decide +kernel
theorem dX9_work_293 : decode cX9_work 293 = .ok (.istore 10, 2) := by decide +kernel
theorem dX9_work_295 : decode cX9_work 295 = .ok (.goto 10, 3) := by decide +kernel
theorem dX9_work_298 : decode cX9_work 298 = .ok (.iload 8, 2) := by decide +kernel
theorem dX9_work_300 : decode cX9_work 300 = .ok (.iload 9, 2) := by decide +kernel
theorem dX9_work_302 : decode cX9_work 302 = .ok (.ior, 1) := by decide +kernel
theorem dX9_work_303 : decode cX9_work 303 = .ok (.istore 10, 2) := by decide +kernel
theorem dX9_work_305 : decode cX9_work 305 = .ok (.iload 4, 2) := by decide +kernel
theorem dX9_work_307 : decode cX9_work 307 = .ok (.iload 6, 2) := by decide +kernel
theorem dX9_work_309 : decode cX9_work 309 = .ok (.iconst 1, 1) := by decide +kernel
theorem dX9_work_310 : decode cX9_work 310 = .ok (.if_icmp .gt 7, 3) := by decide +kernel
theorem dX9_work_313 : decode cX9_work 313 = .ok (.iconst 1, 1) := by decide +kernel
theorem dX9_work_314 : decode cX9_work 314 = .ok (.goto 14, 3) := by decide +kernel
theorem dX9_work_317 : decode cX9_work 317 = .ok (.iload 6, 2) := by decide +kernel
theorem dX9_work_319 : decode cX9_work 319 = .ok (.iconst 3, 1) := by decide +kernel
theorem dX9_work_320 : decode cX9_work 320 = .ok (.if_icmp .gt 7, 3) := by decide +kernel
theorem dX9_work_323 : decode cX9_work 323 = .ok (.iconst 0, 1) := by decide +kernel
theorem dX9_work_324 : decode cX9_work 324 = .ok (.goto 4, 3) := by decide +kernel
theorem dX9_work_327 : decode cX9_work 327 = .ok (.iconst (-1), 1) := by decide +kernel
theorem dX9_work_328 : decode cX9_work 328 = .ok (.iadd, 1) := by decide +kernel
theorem dX9_work_329 : decode cX9_work 329 = .ok (.istore 4, 2) := by decide +kernel
theorem dX9_work_331 : decode cX9_work 331 = .ok (.aload_n 0, 1) := by decide +kernel
theorem dX9_work_332 : decode cX9_work 332 = .ok (.getfield 27, 3) := by decide +kernel
theorem dX9_work_335 : decode cX9_work 335 = .ok (.iload 4, 2) := by decide +kernel
theorem dX9_work_337 : decode cX9_work 337 = .ok (.iconst 1, 1) := by decide +kernel
theorem dX9_work_338 : decode cX9_work 338 = .ok (.isub, 1) := by decide +kernel
theorem dX9_work_339 : decode cX9_work 339 = .ok (.iload 10, 2) := by decide +kernel
theorem dX9_work_341 : decode cX9_work 341 = .ok (.iastore, 1) := by decide +kernel
theorem dX9_work_342 : decode cX9_work 342 = .ok (.iinc 5 1, 3) := by decide +kernel
theorem dX9_work_345 : decode cX9_work 345 = .ok (.goto (-335), 3) := by decide +kernel
theorem dX9_work_348 : decode cX9_work 348 = .ok (.iload 4, 2) := by decide +kernel
theorem dX9_work_350 : decode cX9_work 350 = .ok (.iconst 2, 1) := by decide +kernel
theorem dX9_work_351 : decode cX9_work 351 = .ok (.if_icmp .le 15, 3) := by decide +kernel
theorem dX9_work_354 : decode cX9_work 354 = .ok (.aload_n 0, 1) := by decide +kernel
theorem dX9_work_355 : decode cX9_work 355 = .ok (.getfield 27, 3) := by decide +kernel
theorem dX9_work_358 : decode cX9_work 358 = .ok (.iload 4, 2) := by decide +kernel
theorem dX9_work_360 : decode cX9_work 360 = .ok (.iconst 1, 1) := by decide +kernel
theorem dX9_work_361 : decode cX9_work 361 = .ok (.isub, 1) := by decide +kernel
theorem dX9_work_362 : decode cX9_work 362 = .ok (.iaload, 1) := by decide +kernel
theorem dX9_work_363 : decode cX9_work 363 = .ok (.goto 4, 3) := by decide +kernel
theorem dX9_work_366 : decode cX9_work 366 = .ok (.iconst 0, 1) := by decide +kernel
theorem dX9_work_367 : decode cX9_work 367 = .ok (.ireturn, 1) := by decide +kernel
theorem dX10_feed_0 : decode cX10_feed 0 = .ok (.aload_n 0, 1) := by decide +kernel
theorem dX10_feed_1 : decode cX10_feed 1 = .ok (.getfield 38, 3) := by decide +kernel
theorem dX10_feed_4 : decode cX10_feed 4 = .ok (.bipush 20, 2) := by decide +kernel
theorem dX10_feed_6 : decode cX10_feed 6 = .ok (.invokevirtual 127, 3) := by decide +kernel
theorem dX10_feed_9 : decode cX10_feed 9 = .ok (.ifCond .ne 5, 3) := by decide +kernel
theorem dX10_feed_12 : decode cX10_feed 12 = .ok (.iconst (-1), 1) := by decide +kernel
theorem dX10_feed_13 : decode cX10_feed 13 = .ok (.ireturn, 1) := by decide +kernel
theorem dX10_feed_14 : decode cX10_feed 14 = .ok (.aload_n 0, 1) := by decide +kernel
theorem dX10_feed_15 : decode cX10_feed 15 = .ok (.getfield 38, 3) := by decide +kernel
theorem dX10_feed_18 : decode cX10_feed 18 = .ok (.iload_n 1, 1) := by decide +kernel
theorem dX10_feed_19 : decode cX10_feed 19 = .ok (.invokevirtual 131, 3) := by decide +kernel
theorem dX10_feed_22 : decode cX10_feed 22 = .ok (.pop, 1) := by decide +kernel
theorem dX10_feed_23 : decode cX10_feed 23 = .ok (.aload_n 0, 1) := by decide +kernel
theorem dX10_feed_24 : decode cX10_feed 24 = .ok (.getfield 38, 3) := by decide +kernel
theorem dX10_feed_27 : decode cX10_feed 27 = .ok (.iload_n 2, 1) := by decide +kernel
theorem dX10_feed_28 : decode cX10_feed 28 = .ok (.invokevirtual 131, 3) := by decide +kernel
theorem dX10_feed_31 : decode cX10_feed 31 = .ok (.pop, 1) := by decide +kernel
theorem dX10_feed_32 : decode cX10_feed 32 = .ok (.aload_n 0, 1) := by decide +kernel
theorem dX10_feed_33 : decode cX10_feed 33 = .ok (.getfield 38, 3) := by decide +kernel
theorem dX10_feed_36 : decode cX10_feed 36 = .ok (.iload_n 3, 1) := by decide +kernel
theorem dX10_feed_37 : decode cX10_feed 37 = .ok (.invokevirtual 131, 3) := by decide +kernel
theorem dX10_feed_40 : decode cX10_feed 40 = .ok (.pop, 1) := by decide +kernel
theorem dX10_feed_41 : decode cX10_feed 41 = .ok (.aload_n 0, 1) := by decide +kernel
theorem dX10_feed_42 : decode cX10_feed 42 = .ok (.getfield 38, 3) := by decide +kernel
theorem dX10_feed_45 : decode cX10_feed 45 = .ok (.iload 4, 2) := by decide +kernel
theorem dX10_feed_47 : decode cX10_feed 47 = .ok (.invokevirtual 131, 3) := by decide +kernel
theorem dX10_feed_50 : decode cX10_feed 50 = .ok (.pop, 1) := by decide +kernel
theorem dX10_feed_51 : decode cX10_feed 51 = .ok (.aload_n 0, 1) := by decide +kernel
theorem dX10_feed_52 : decode cX10_feed 52 = .ok (.getfield 38, 3) := by decide +kernel
theorem dX10_feed_55 : decode cX10_feed 55 = .ok (.iload 5, 2) := by decide +kernel
theorem dX10_feed_57 : decode cX10_feed 57 = .ok (.invokevirtual 131, 3) := by decide +kernel
theorem dX10_feed_60 : decode cX10_feed 60 = .ok (.ireturn, 1) := by decide +kernel
theorem dX10_end_0 : decode cX10_end 0 = .ok (.aload_n 0, 1) := by decide +kernel
theorem dX10_end_1 : decode cX10_end 1 = .ok (.getfield 38, 3) := by decide +kernel
theorem dX10_end_4 : decode cX10_end 4 = .ok (.iload_n 1, 1) := by decide +kernel
theorem dX10_end_5 : decode cX10_end 5 = .ok (.invokevirtual 134, 3) := by decide +kernel
theorem dX10_end_8 : decode cX10_end 8 = .ok (.ireturn, 1) := by decide +kernel
theorem dX10_fault_0 : decode cX10_fault 0 = .ok (.iload_n 1, 1) := by decide +kernel
theorem dX10_fault_1 : decode cX10_fault 1 = .ok (.ifCond .ne 11, 3) := by decide +kernel
theorem dX10_fault_4 : decode cX10_fault 4 = .ok (.aload_n 0, 1) := by decide +kernel
theorem dX10_fault_5 : decode cX10_fault 5 = .ok (.getfield 38, 3) := by decide +kernel
theorem dX10_fault_8 : decode cX10_fault 8 = .ok (.getfield 159, 3) := by decide +kernel
theorem dX10_fault_11 : decode cX10_fault 11 = .ok (.ireturn, 1) := by decide +kernel
theorem dX10_fault_12 : decode cX10_fault 12 = .ok (.iload_n 1, 1) := by decide +kernel
theorem dX10_fault_13 : decode cX10_fault 13 = .ok (.iconst 1, 1) := by decide +kernel
theorem dX10_fault_14 : decode cX10_fault 14 = .ok (.if_icmp .ne 13, 3) := by decide +kernel
theorem dX10_fault_17 : decode cX10_fault 17 = .ok (.aload_n 0, 1) := by decide +kernel
theorem dX10_fault_18 : decode cX10_fault 18 = .ok (.getfield 38, 3) := by decide +kernel
theorem dX10_fault_21 : decode cX10_fault 21 = .ok (.getfield 162, 3) := by decide +kernel
theorem dX10_fault_24 : decode cX10_fault 24 = .ok (.goto 4, 3) := by decide +kernel
theorem dX10_fault_27 : decode cX10_fault 27 = .ok (.iconst (-1), 1) := by decide +kernel
theorem dX10_fault_28 : decode cX10_fault 28 = .ok (.ireturn, 1) := by decide +kernel
theorem dX10_sail_0 : decode cX10_sail 0 = .ok (.aload_n 0, 1) := by decide +kernel
theorem dX10_sail_1 : decode cX10_sail 1 = .ok (.getfield 28, 3) := by decide +kernel
theorem dX10_sail_4 : decode cX10_sail 4 = .ok (.getfield 193, 3) := by decide +kernel
theorem dX10_sail_7 : decode cX10_sail 7 = .ok (.ifCond .eq 5, 3) := by decide +kernel
theorem dX10_sail_10 : decode cX10_sail 10 = .ok (.iconst 0, 1) := by decide +kernel
theorem dX10_sail_11 : decode cX10_sail 11 = .ok (.ireturn, 1) := by decide +kernel
theorem dX10_sail_12 : decode cX10_sail 12 = .ok (.aload_n 0, 1) := by decide +kernel
theorem dX10_sail_13 : decode cX10_sail 13 = .ok (.getfield 28, 3) := by decide +kernel
theorem dX10_sail_16 : decode cX10_sail 16 = .ok (.iconst 1, 1) := by decide +kernel
theorem dX10_sail_17 : decode cX10_sail 17 = .ok (.putfield 193, 3) := by decide +kernel
theorem dX10_sail_20 : decode cX10_sail 20 = .ok (.aload_n 0, 1) := by decide +kernel
theorem dX10_sail_21 : decode cX10_sail 21 = .ok (.getfield 28, 3) := by decide +kernel
theorem dX10_sail_24 : decode cX10_sail 24 = .ok (.iload_n 1, 1) := by decide +kernel
theorem dX10_sail_25 : decode cX10_sail 25 = .ok (.putfield 206, 3) := by decide +kernel
theorem dX10_sail_28 : decode cX10_sail 28 = .ok (.iconst 1, 1) := by decide +kernel
theorem dX10_sail_29 : decode cX10_sail 29 = .ok (.ireturn, 1) := by decide +kernel
theorem dX10_port_0 : decode cX10_port 0 = .ok (.iload_n 1, 1) := by decide +kernel
theorem dX10_port_1 : decode cX10_port 1 = .ok (.iconst 1, 1) := by decide +kernel
theorem dX10_port_2 : decode cX10_port 2 = .ok (.if_icmp .lt 19, 3) := by decide +kernel
theorem dX10_port_5 : decode cX10_port 5 = .ok (.iload_n 1, 1) := by decide +kernel
theorem dX10_port_6 : decode cX10_port 6 = .ok (.sipush 400, 3) := by decide +kernel
theorem dX10_port_9 : decode cX10_port 9 = .ok (.if_icmp .gt 12, 3) := by decide +kernel
theorem dX10_port_12 : decode cX10_port 12 = .ok (.aload_n 0, 1) := by decide +kernel
theorem dX10_port_13 : decode cX10_port 13 = .ok (.getfield 293, 3) := by decide +kernel
theorem dX10_port_16 : decode cX10_port 16 = .ok (.bipush 6, 2) := by decide +kernel
theorem dX10_port_18 : decode cX10_port 18 = .ok (.if_icmp .lt 5, 3) := by decide +kernel
theorem dX10_port_21 : decode cX10_port 21 = .ok (.iconst (-1), 1) := by decide +kernel
theorem dX10_port_22 : decode cX10_port 22 = .ok (.ireturn, 1) := by decide +kernel
theorem dX10_port_23 : decode cX10_port 23 = .ok (.aload_n 0, 1) := by decide +kernel
theorem dX10_port_24 : decode cX10_port 24 = .ok (.getfield 77, 3) := by decide +kernel
theorem dX10_port_27 : decode cX10_port 27 = .ok (.aload_n 0, 1) := by decide +kernel
theorem dX10_port_28 : decode cX10_port 28 = .ok (.getfield 293, 3) := by decide +kernel
theorem dX10_port_31 : decode cX10_port 31 = .ok (.iload_n 1, 1) := by decide +kernel
theorem dX10_port_32 : decode cX10_port 32 = .ok (.iastore, 1) := by decide +kernel
theorem dX10_port_33 : decode cX10_port 33 = .ok (.aload_n 0, 1) := by decide +kernel
theorem dX10_port_34 : decode cX10_port 34 = .ok (.dup, 1) := by decide +kernel
theorem dX10_port_35 : decode cX10_port 35 = .ok (.getfield 293, 3) := by decide +kernel
theorem dX10_port_38 : decode cX10_port 38 = .ok (.iconst 1, 1) := by decide +kernel
theorem dX10_port_39 : decode cX10_port 39 = .ok (.iadd, 1) := by decide +kernel
theorem dX10_port_40 : decode cX10_port 40 = .ok (.putfield 293, 3) := by decide +kernel
theorem dX10_port_43 : decode cX10_port 43 = .ok (.aload_n 0, 1) := by decide +kernel
theorem dX10_port_44 : decode cX10_port 44 = .ok (.getfield 293, 3) := by decide +kernel
theorem dX10_port_47 : decode cX10_port 47 = .ok (.iconst 1, 1) := by decide +kernel
theorem dX10_port_48 : decode cX10_port 48 = .ok (.isub, 1) := by decide +kernel
theorem dX10_port_49 : decode cX10_port 49 = .ok (.ireturn, 1) := by decide +kernel
theorem dX10_within_0 : decode cX10_within 0 = .ok (.iload_n 0, 1) := by decide +kernel
theorem dX10_within_1 : decode cX10_within 1 = .ok (.ifCond .lt 12, 3) := by decide +kernel
theorem dX10_within_4 : decode cX10_within 4 = .ok (.iload_n 0, 1) := by decide +kernel
theorem dX10_within_5 : decode cX10_within 5 = .ok (.iload_n 1, 1) := by decide +kernel
theorem dX10_within_6 : decode cX10_within 6 = .ok (.if_icmp .ge 7, 3) := by decide +kernel
theorem dX10_within_9 : decode cX10_within 9 = .ok (.iconst 1, 1) := by decide +kernel
theorem dX10_within_10 : decode cX10_within 10 = .ok (.goto 4, 3) := by decide +kernel
theorem dX10_within_13 : decode cX10_within 13 = .ok (.iconst 0, 1) := by decide +kernel
theorem dX10_within_14 : decode cX10_within 14 = .ok (.ireturn, 1) := by decide +kernel
theorem dX10_held_0 : decode cX10_held 0 = .ok (.iconst 0, 1) := by decide +kernel
theorem dX10_held_1 : decode cX10_held 1 = .ok (.iload_n 0, 1) := by decide +kernel
theorem dX10_held_2 : decode cX10_held 2 = .ok (.iload_n 1, 1) := by decide +kernel
theorem dX10_held_3 : decode cX10_held 3 = .ok (.invokestatic 312, 3) := by decide +kernel
theorem dX10_held_6 : decode cX10_held 6 = .ok (.invokestatic 317, 3) := by decide +kernel
theorem dX10_held_9 : decode cX10_held 9 = .ok (.ireturn, 1) := by decide +kernel
theorem dX10_heapCell_0 : decode cX10_heapCell 0 = .ok (.iload_n 0, 1) := by decide +kernel
theorem dX10_heapCell_1 : decode cX10_heapCell 1 = .ok (.bipush 8, 2) := by decide +kernel
theorem dX10_heapCell_3 : decode cX10_heapCell 3 = .ok (.invokestatic 85, 3) := by decide +kernel
theorem dX10_heapCell_6 : decode cX10_heapCell 6 = .ok (.ifCond .eq 20, 3) := by decide +kernel
theorem dX10_heapCell_9 : decode cX10_heapCell 9 = .ok (.iload_n 1, 1) := by decide +kernel
theorem dX10_heapCell_10 : decode cX10_heapCell 10 = .ok (.bipush 8, 2) := by decide +kernel
theorem dX10_heapCell_12 : decode cX10_heapCell 12 = .ok (.invokestatic 85, 3) := by decide +kernel
theorem dX10_heapCell_15 : decode cX10_heapCell 15 = .ok (.ifCond .eq 11, 3) := by decide +kernel
theorem dX10_heapCell_18 : decode cX10_heapCell 18 = .ok (.iload_n 2, 1) := by decide +kernel
theorem dX10_heapCell_19 : decode cX10_heapCell 19 = .ok (.iconst 4, 1) := by decide +kernel
theorem dX10_heapCell_20 : decode cX10_heapCell 20 = .ok (.invokestatic 85, 3) := by decide +kernel
theorem dX10_heapCell_23 : decode cX10_heapCell 23 = .ok (.ifCond .ne 5, 3) := by decide +kernel
theorem dX10_heapCell_26 : decode cX10_heapCell 26 = .ok (.iconst (-1), 1) := by decide +kernel
theorem dX10_heapCell_27 : decode cX10_heapCell 27 = .ok (.ireturn, 1) := by decide +kernel
theorem dX10_heapCell_28 : decode cX10_heapCell 28 = .ok (.iload_n 0, 1) := by decide +kernel
theorem dX10_heapCell_29 : decode cX10_heapCell 29 = .ok (.bipush 8, 2) := by decide +kernel
theorem dX10_heapCell_31 : decode cX10_heapCell 31 = .ok (.imul, 1) := by decide +kernel
theorem dX10_heapCell_32 : decode cX10_heapCell 32 = .ok (.iload_n 1, 1) := by decide +kernel
theorem dX10_heapCell_33 : decode cX10_heapCell 33 = .ok (.iadd, 1) := by decide +kernel
theorem dX10_heapCell_34 : decode cX10_heapCell 34 = .ok (.iconst 4, 1) := by decide +kernel
theorem dX10_heapCell_35 : decode cX10_heapCell 35 = .ok (.imul, 1) := by decide +kernel
theorem dX10_heapCell_36 : decode cX10_heapCell 36 = .ok (.iload_n 2, 1) := by decide +kernel
theorem dX10_heapCell_37 : decode cX10_heapCell 37 = .ok (.iadd, 1) := by decide +kernel
theorem dX10_heapCell_38 : decode cX10_heapCell 38 = .ok (.ireturn, 1) := by decide +kernel
theorem dX10_holdCell_0 : decode cX10_holdCell 0 = .ok (.iload_n 0, 1) := by decide +kernel
theorem dX10_holdCell_1 : decode cX10_holdCell 1 = .ok (.iconst 4, 1) := by decide +kernel
theorem dX10_holdCell_2 : decode cX10_holdCell 2 = .ok (.invokestatic 85, 3) := by decide +kernel
theorem dX10_holdCell_5 : decode cX10_holdCell 5 = .ok (.ifCond .eq 21, 3) := by decide +kernel
theorem dX10_holdCell_8 : decode cX10_holdCell 8 = .ok (.iload_n 1, 1) := by decide +kernel
theorem dX10_holdCell_9 : decode cX10_holdCell 9 = .ok (.bipush 6, 2) := by decide +kernel
theorem dX10_holdCell_11 : decode cX10_holdCell 11 = .ok (.invokestatic 85, 3) := by decide +kernel
theorem dX10_holdCell_14 : decode cX10_holdCell 14 = .ok (.ifCond .eq 12, 3) := by decide +kernel
theorem dX10_holdCell_17 : decode cX10_holdCell 17 = .ok (.iload_n 2, 1) := by decide +kernel
theorem dX10_holdCell_18 : decode cX10_holdCell 18 = .ok (.bipush 6, 2) := by decide +kernel
theorem dX10_holdCell_20 : decode cX10_holdCell 20 = .ok (.invokestatic 85, 3) := by decide +kernel
theorem dX10_holdCell_23 : decode cX10_holdCell 23 = .ok (.ifCond .ne 5, 3) := by decide +kernel
theorem dX10_holdCell_26 : decode cX10_holdCell 26 = .ok (.iconst (-1), 1) := by decide +kernel
theorem dX10_holdCell_27 : decode cX10_holdCell 27 = .ok (.ireturn, 1) := by decide +kernel
theorem dX10_holdCell_28 : decode cX10_holdCell 28 = .ok (.iload_n 0, 1) := by decide +kernel
theorem dX10_holdCell_29 : decode cX10_holdCell 29 = .ok (.bipush 6, 2) := by decide +kernel
theorem dX10_holdCell_31 : decode cX10_holdCell 31 = .ok (.imul, 1) := by decide +kernel
theorem dX10_holdCell_32 : decode cX10_holdCell 32 = .ok (.iload_n 1, 1) := by decide +kernel
theorem dX10_holdCell_33 : decode cX10_holdCell 33 = .ok (.iadd, 1) := by decide +kernel
theorem dX10_holdCell_34 : decode cX10_holdCell 34 = .ok (.bipush 6, 2) := by decide +kernel
theorem dX10_holdCell_36 : decode cX10_holdCell 36 = .ok (.imul, 1) := by decide +kernel
theorem dX10_holdCell_37 : decode cX10_holdCell 37 = .ok (.iload_n 2, 1) := by decide +kernel
theorem dX10_holdCell_38 : decode cX10_holdCell 38 = .ok (.iadd, 1) := by decide +kernel
theorem dX10_holdCell_39 : decode cX10_holdCell 39 = .ok (.ireturn, 1) := by decide +kernel
theorem dX10_cellOf_0 : decode cX10_cellOf 0 = .ok (.iload_n 0, 1) := by decide +kernel
theorem dX10_cellOf_1 : decode cX10_cellOf 1 = .ok (.iconst (-1), 1) := by decide +kernel
theorem dX10_cellOf_2 : decode cX10_cellOf 2 = .ok (.if_icmp .ne 12, 3) := by decide +kernel
theorem dX10_cellOf_5 : decode cX10_cellOf 5 = .ok (.iload_n 1, 1) := by decide +kernel
theorem dX10_cellOf_6 : decode cX10_cellOf 6 = .ok (.iload_n 2, 1) := by decide +kernel
theorem dX10_cellOf_7 : decode cX10_cellOf 7 = .ok (.iload_n 3, 1) := by decide +kernel
theorem dX10_cellOf_8 : decode cX10_cellOf 8 = .ok (.invokestatic 96, 3) := by decide +kernel
theorem dX10_cellOf_11 : decode cX10_cellOf 11 = .ok (.goto 9, 3) := by decide +kernel
theorem dX10_cellOf_14 : decode cX10_cellOf 14 = .ok (.iload_n 0, 1) := by decide +kernel
theorem dX10_cellOf_15 : decode cX10_cellOf 15 = .ok (.iload_n 1, 1) := by decide +kernel
theorem dX10_cellOf_16 : decode cX10_cellOf 16 = .ok (.iload_n 3, 1) := by decide +kernel
theorem dX10_cellOf_17 : decode cX10_cellOf 17 = .ok (.invokestatic 190, 3) := by decide +kernel
theorem dX10_cellOf_20 : decode cX10_cellOf 20 = .ok (.ireturn, 1) := by decide +kernel
theorem dX10_stacksOf_0 : decode cX10_stacksOf 0 = .ok (.iload_n 1, 1) := by decide +kernel
theorem dX10_stacksOf_1 : decode cX10_stacksOf 1 = .ok (.iconst (-1), 1) := by decide +kernel
theorem dX10_stacksOf_2 : decode cX10_stacksOf 2 = .ok (.if_icmp .ne 10, 3) := by decide +kernel
theorem dX10_stacksOf_5 : decode cX10_stacksOf 5 = .ok (.aload_n 0, 1) := by decide +kernel
theorem dX10_stacksOf_6 : decode cX10_stacksOf 6 = .ok (.getfield 21, 3) := by decide +kernel
theorem dX10_stacksOf_9 : decode cX10_stacksOf 9 = .ok (.goto 10, 3) := by decide +kernel
theorem dX10_stacksOf_12 : decode cX10_stacksOf 12 = .ok (.aload_n 0, 1) := by decide +kernel
theorem dX10_stacksOf_13 : decode cX10_stacksOf 13 = .ok (.getfield 28, 3) := by decide +kernel
theorem dX10_stacksOf_16 : decode cX10_stacksOf 16 = .ok (.getfield 196, 3) := by decide +kernel
theorem dX10_stacksOf_19 : decode cX10_stacksOf 19 = .ok (.areturn, 1) := by decide +kernel
theorem dX10_columnArm_0 : decode cX10_columnArm 0 = .ok (.iconst 2, 1) := by decide +kernel
theorem dX10_columnArm_1 : decode cX10_columnArm 1 = .ok (.iload_n 0, 1) := by decide +kernel
theorem dX10_columnArm_2 : decode cX10_columnArm 2 = .ok (.imul, 1) := by decide +kernel
theorem dX10_columnArm_3 : decode cX10_columnArm 3 = .ok (.iconst 5, 1) := by decide +kernel
theorem dX10_columnArm_4 : decode cX10_columnArm 4 = .ok (.isub, 1) := by decide +kernel
theorem dX10_columnArm_5 : decode cX10_columnArm 5 = .ok (.ireturn, 1) := by decide +kernel
theorem dX10_worstOf_0 : decode cX10_worstOf 0 = .ok (.iload_n 0, 1) := by decide +kernel
theorem dX10_worstOf_1 : decode cX10_worstOf 1 = .ok (.bipush 6, 2) := by decide +kernel
theorem dX10_worstOf_3 : decode cX10_worstOf 3 = .ok (.idiv, 1) := by decide +kernel
theorem dX10_worstOf_4 : decode cX10_worstOf 4 = .ok (.istore_n 1, 1) := by decide +kernel
theorem dX10_worstOf_5 : decode cX10_worstOf 5 = .ok (.bipush 6, 2) := by decide +kernel
theorem dX10_worstOf_7 : decode cX10_worstOf 7 = .ok (.iload_n 1, 1) := by decide +kernel
theorem dX10_worstOf_8 : decode cX10_worstOf 8 = .ok (.imul, 1) := by decide +kernel
theorem dX10_worstOf_9 : decode cX10_worstOf 9 = .ok (.bipush 6, 2) := by decide +kernel
theorem dX10_worstOf_11 : decode cX10_worstOf 11 = .ok (.iload_n 1, 1) := by decide +kernel
theorem dX10_worstOf_12 : decode cX10_worstOf 12 = .ok (.isub, 1) := by decide +kernel
theorem dX10_worstOf_13 : decode cX10_worstOf 13 = .ok (.imul, 1) := by decide +kernel
theorem dX10_worstOf_14 : decode cX10_worstOf 14 = .ok (.iload_n 0, 1) := by decide +kernel
theorem dX10_worstOf_15 : decode cX10_worstOf 15 = .ok (.bipush 6, 2) := by decide +kernel
theorem dX10_worstOf_17 : decode cX10_worstOf 17 = .ok (.irem, 1) := by decide +kernel
theorem dX10_worstOf_18 : decode cX10_worstOf 18 = .ok (.iconst 5, 1) := by decide +kernel
theorem dX10_worstOf_19 : decode cX10_worstOf 19 = .ok (.iload_n 1, 1) := by decide +kernel
theorem dX10_worstOf_20 : decode cX10_worstOf 20 = .ok (.isub, 1) := by decide +kernel
theorem dX10_worstOf_21 : decode cX10_worstOf 21 = .ok (.invokestatic 320, 3) := by decide +kernel
theorem dX10_worstOf_24 : decode cX10_worstOf 24 = .ok (.imul, 1) := by decide +kernel
theorem dX10_worstOf_25 : decode cX10_worstOf 25 = .ok (.iadd, 1) := by decide +kernel
theorem dX10_worstOf_26 : decode cX10_worstOf 26 = .ok (.ireturn, 1) := by decide +kernel
theorem dX10_nearestPort_0 : decode cX10_nearestPort 0 = .ok (.iconst (-1), 1) := by decide +kernel
theorem dX10_nearestPort_1 : decode cX10_nearestPort 1 = .ok (.istore_n 1, 1) := by decide +kernel
theorem dX10_nearestPort_2 : decode cX10_nearestPort 2 = .ok (.iconst 0, 1) := by decide +kernel
theorem dX10_nearestPort_3 : decode cX10_nearestPort 3 = .ok (.istore_n 2, 1) := by decide +kernel
theorem dX10_nearestPort_4 : decode cX10_nearestPort 4 = .ok (.iload_n 2, 1) := by decide +kernel
theorem dX10_nearestPort_5 : decode cX10_nearestPort 5 = .ok (.aload_n 0, 1) := by decide +kernel
theorem dX10_nearestPort_6 : decode cX10_nearestPort 6 = .ok (.getfield 293, 3) := by decide +kernel
theorem dX10_nearestPort_9 : decode cX10_nearestPort 9 = .ok (.if_icmp .ge 37, 3) := by decide +kernel
theorem dX10_nearestPort_12 : decode cX10_nearestPort 12 = .ok (.iload_n 2, 1) := by decide +kernel
theorem dX10_nearestPort_13 : decode cX10_nearestPort 13 = .ok (.bipush 6, 2) := by decide +kernel
theorem dX10_nearestPort_15 : decode cX10_nearestPort 15 = .ok (.if_icmp .ge 31, 3) := by decide +kernel
theorem dX10_nearestPort_18 : decode cX10_nearestPort 18 = .ok (.iload_n 1, 1) := by decide +kernel
theorem dX10_nearestPort_19 : decode cX10_nearestPort 19 = .ok (.iconst (-1), 1) := by decide +kernel
theorem dX10_nearestPort_20 : decode cX10_nearestPort 20 = .ok (.if_icmp .eq 18, 3) := by decide +kernel
theorem dX10_nearestPort_23 : decode cX10_nearestPort 23 = .ok (.aload_n 0, 1) := by decide +kernel
theorem dX10_nearestPort_24 : decode cX10_nearestPort 24 = .ok (.getfield 77, 3) := by decide +kernel
theorem dX10_nearestPort_27 : decode cX10_nearestPort 27 = .ok (.iload_n 2, 1) := by decide +kernel
theorem dX10_nearestPort_28 : decode cX10_nearestPort 28 = .ok (.iaload, 1) := by decide +kernel
theorem dX10_nearestPort_29 : decode cX10_nearestPort 29 = .ok (.aload_n 0, 1) := by decide +kernel
theorem dX10_nearestPort_30 : decode cX10_nearestPort 30 = .ok (.getfield 77, 3) := by decide +kernel
theorem dX10_nearestPort_33 : decode cX10_nearestPort 33 = .ok (.iload_n 1, 1) := by decide +kernel
theorem dX10_nearestPort_34 : decode cX10_nearestPort 34 = .ok (.iaload, 1) := by decide +kernel
theorem dX10_nearestPort_35 : decode cX10_nearestPort 35 = .ok (.if_icmp .ge 5, 3) := by decide +kernel
theorem dX10_nearestPort_38 : decode cX10_nearestPort 38 = .ok (.iload_n 2, 1) := by decide +kernel
theorem dX10_nearestPort_39 : decode cX10_nearestPort 39 = .ok (.istore_n 1, 1) := by decide +kernel
theorem dX10_nearestPort_40 : decode cX10_nearestPort 40 = .ok (.iinc 2 1, 3) := by decide +kernel
theorem dX10_nearestPort_43 : decode cX10_nearestPort 43 = .ok (.goto (-39), 3) := by decide +kernel
theorem dX10_nearestPort_46 : decode cX10_nearestPort 46 = .ok (.iload_n 1, 1) := by decide +kernel
theorem dX10_nearestPort_47 : decode cX10_nearestPort 47 = .ok (.ireturn, 1) := by decide +kernel
theorem dX11_isIn_0 : decode cX11_isIn 0 = .ok (.iload_n 1, 1) := by decide +kernel
theorem dX11_isIn_1 : decode cX11_isIn 1 = .ok (.iload_n 2, 1) := by decide +kernel
theorem dX11_isIn_2 : decode cX11_isIn 2 = .ok (.if_icmp .lt 12, 3) := by decide +kernel
theorem dX11_isIn_5 : decode cX11_isIn 5 = .ok (.iload_n 1, 1) := by decide +kernel
theorem dX11_isIn_6 : decode cX11_isIn 6 = .ok (.iload_n 3, 1) := by decide +kernel
theorem dX11_isIn_7 : decode cX11_isIn 7 = .ok (.if_icmp .gt 7, 3) := by decide +kernel
theorem dX11_isIn_10 : decode cX11_isIn 10 = .ok (.iconst 1, 1) := by decide +kernel
theorem dX11_isIn_11 : decode cX11_isIn 11 = .ok (.goto 4, 3) := by decide +kernel
theorem dX11_isIn_14 : decode cX11_isIn 14 = .ok (.iconst 0, 1) := by decide +kernel
theorem dX11_isIn_15 : decode cX11_isIn 15 = .ok (.ireturn, 1) := by decide +kernel
theorem dX11_sort_0 : decode cX11_sort 0 = .ok (.aload_n 0, 1) := by decide +kernel
theorem dX11_sort_1 : decode cX11_sort 1 = .ok (.iconst 0, 1) := by decide +kernel
theorem dX11_sort_2 : decode cX11_sort 2 = .ok (.putfield 141, 3) := by decide +kernel
theorem dX11_sort_5 : decode cX11_sort 5 = .ok (.aload_n 0, 1) := by decide +kernel
theorem dX11_sort_6 : decode cX11_sort 6 = .ok (.iload_n 1, 1) := by decide +kernel
theorem dX11_sort_7 : decode cX11_sort 7 = .ok (.iconst 0, 1) := by decide +kernel
theorem dX11_sort_8 : decode cX11_sort 8 = .ok (.iconst 2, 1) := by decide +kernel
theorem dX11_sort_9 : decode cX11_sort 9 = .ok (.invokevirtual 144, 3) := by decide +kernel
theorem dX11_sort_12 : decode cX11_sort 12 = .ok (.ifCond .ne 5, 3) := by decide +kernel
theorem dX11_sort_15 : decode cX11_sort 15 = .ok (.iconst 0, 1) := by decide +kernel
theorem dX11_sort_16 : decode cX11_sort 16 = .ok (.ireturn, 1) := by decide +kernel
theorem dX11_sort_17 : decode cX11_sort 17 = .ok (.aload_n 0, 1) := by decide +kernel
theorem dX11_sort_18 : decode cX11_sort 18 = .ok (.iload_n 1, 1) := by decide +kernel
theorem dX11_sort_19 : decode cX11_sort 19 = .ok (.putfield 148, 3) := by decide +kernel
theorem dX11_sort_22 : decode cX11_sort 22 = .ok (.iconst 1, 1) := by decide +kernel
theorem dX11_sort_23 : decode cX11_sort 23 = .ok (.ireturn, 1) := by decide +kernel
theorem dX11_sky_0 : decode cX11_sky 0 = .ok (.aload_n 0, 1) := by decide +kernel
theorem dX11_sky_1 : decode cX11_sky 1 = .ok (.iconst 0, 1) := by decide +kernel
theorem dX11_sky_2 : decode cX11_sky 2 = .ok (.putfield 141, 3) := by decide +kernel
theorem dX11_sky_5 : decode cX11_sky 5 = .ok (.aload_n 0, 1) := by decide +kernel
theorem dX11_sky_6 : decode cX11_sky 6 = .ok (.iload_n 1, 1) := by decide +kernel
theorem dX11_sky_7 : decode cX11_sky 7 = .ok (.iconst 0, 1) := by decide +kernel
theorem dX11_sky_8 : decode cX11_sky 8 = .ok (.bipush 29, 2) := by decide +kernel
theorem dX11_sky_10 : decode cX11_sky 10 = .ok (.invokevirtual 144, 3) := by decide +kernel
theorem dX11_sky_13 : decode cX11_sky 13 = .ok (.ifCond .eq 25, 3) := by decide +kernel
theorem dX11_sky_16 : decode cX11_sky 16 = .ok (.aload_n 0, 1) := by decide +kernel
theorem dX11_sky_17 : decode cX11_sky 17 = .ok (.iload_n 2, 1) := by decide +kernel
theorem dX11_sky_18 : decode cX11_sky 18 = .ok (.iconst 0, 1) := by decide +kernel
theorem dX11_sky_19 : decode cX11_sky 19 = .ok (.bipush 9, 2) := by decide +kernel
theorem dX11_sky_21 : decode cX11_sky 21 = .ok (.invokevirtual 144, 3) := by decide +kernel
theorem dX11_sky_24 : decode cX11_sky 24 = .ok (.ifCond .eq 14, 3) := by decide +kernel
theorem dX11_sky_27 : decode cX11_sky 27 = .ok (.aload_n 0, 1) := by decide +kernel
theorem dX11_sky_28 : decode cX11_sky 28 = .ok (.iload_n 3, 1) := by decide +kernel
theorem dX11_sky_29 : decode cX11_sky 29 = .ok (.iconst 0, 1) := by decide +kernel
theorem dX11_sky_30 : decode cX11_sky 30 = .ok (.bipush 9, 2) := by decide +kernel
theorem dX11_sky_32 : decode cX11_sky 32 = .ok (.invokevirtual 144, 3) := by decide +kernel
theorem dX11_sky_35 : decode cX11_sky 35 = .ok (.ifCond .ne 5, 3) := by decide +kernel
theorem dX11_sky_38 : decode cX11_sky 38 = .ok (.iconst 0, 1) := by decide +kernel
theorem dX11_sky_39 : decode cX11_sky 39 = .ok (.ireturn, 1) := by decide +kernel
theorem dX11_sky_40 : decode cX11_sky 40 = .ok (.aload_n 0, 1) := by decide +kernel
theorem dX11_sky_41 : decode cX11_sky 41 = .ok (.getfield 7, 3) := by decide +kernel
theorem dX11_sky_44 : decode cX11_sky 44 = .ok (.iload_n 1, 1) := by decide +kernel
theorem dX11_sky_45 : decode cX11_sky 45 = .ok (.iload_n 2, 1) := by decide +kernel
theorem dX11_sky_46 : decode cX11_sky 46 = .ok (.iastore, 1) := by decide +kernel
theorem dX11_sky_47 : decode cX11_sky 47 = .ok (.aload_n 0, 1) := by decide +kernel
theorem dX11_sky_48 : decode cX11_sky 48 = .ok (.getfield 13, 3) := by decide +kernel
theorem dX11_sky_51 : decode cX11_sky 51 = .ok (.iload_n 1, 1) := by decide +kernel
theorem dX11_sky_52 : decode cX11_sky 52 = .ok (.iload_n 3, 1) := by decide +kernel
theorem dX11_sky_53 : decode cX11_sky 53 = .ok (.iastore, 1) := by decide +kernel
theorem dX11_sky_54 : decode cX11_sky 54 = .ok (.iconst 1, 1) := by decide +kernel
theorem dX11_sky_55 : decode cX11_sky 55 = .ok (.ireturn, 1) := by decide +kernel
theorem dX11_heapAt_0 : decode cX11_heapAt 0 = .ok (.aload_n 0, 1) := by decide +kernel
theorem dX11_heapAt_1 : decode cX11_heapAt 1 = .ok (.iload_n 1, 1) := by decide +kernel
theorem dX11_heapAt_2 : decode cX11_heapAt 2 = .ok (.iconst 0, 1) := by decide +kernel
theorem dX11_heapAt_3 : decode cX11_heapAt 3 = .ok (.bipush 7, 2) := by decide +kernel
theorem dX11_heapAt_5 : decode cX11_heapAt 5 = .ok (.invokevirtual 144, 3) := by decide +kernel
theorem dX11_heapAt_8 : decode cX11_heapAt 8 = .ok (.ifCond .eq 38, 3) := by decide +kernel
theorem dX11_heapAt_11 : decode cX11_heapAt 11 = .ok (.aload_n 0, 1) := by decide +kernel
theorem dX11_heapAt_12 : decode cX11_heapAt 12 = .ok (.iload_n 2, 1) := by decide +kernel
theorem dX11_heapAt_13 : decode cX11_heapAt 13 = .ok (.iconst 0, 1) := by decide +kernel
theorem dX11_heapAt_14 : decode cX11_heapAt 14 = .ok (.bipush 7, 2) := by decide +kernel
theorem dX11_heapAt_16 : decode cX11_heapAt 16 = .ok (.invokevirtual 144, 3) := by decide +kernel
theorem dX11_heapAt_19 : decode cX11_heapAt 19 = .ok (.ifCond .eq 27, 3) := by decide +kernel
theorem dX11_heapAt_22 : decode cX11_heapAt 22 = .ok (.aload_n 0, 1) := by decide +kernel
theorem dX11_heapAt_23 : decode cX11_heapAt 23 = .ok (.iload_n 3, 1) := by decide +kernel
theorem dX11_heapAt_24 : decode cX11_heapAt 24 = .ok (.iconst 0, 1) := by decide +kernel
theorem dX11_heapAt_25 : decode cX11_heapAt 25 = .ok (.iconst 3, 1) := by decide +kernel
theorem dX11_heapAt_26 : decode cX11_heapAt 26 = .ok (.invokevirtual 144, 3) := by decide +kernel
theorem dX11_heapAt_29 : decode cX11_heapAt 29 = .ok (.ifCond .eq 17, 3) := by decide +kernel
theorem dX11_heapAt_32 : decode cX11_heapAt 32 = .ok (.bipush 64, 2) := by decide +kernel
theorem dX11_heapAt_34 : decode cX11_heapAt 34 = .ok (.iload_n 3, 1) := by decide +kernel
theorem dX11_heapAt_35 : decode cX11_heapAt 35 = .ok (.imul, 1) := by decide +kernel
theorem dX11_heapAt_36 : decode cX11_heapAt 36 = .ok (.bipush 8, 2) := by decide +kernel
theorem dX11_heapAt_38 : decode cX11_heapAt 38 = .ok (.iload_n 2, 1) := by decide +kernel
theorem dX11_heapAt_39 : decode cX11_heapAt 39 = .ok (.imul, 1) := by decide +kernel
theorem dX11_heapAt_40 : decode cX11_heapAt 40 = .ok (.iadd, 1) := by decide +kernel
theorem dX11_heapAt_41 : decode cX11_heapAt 41 = .ok (.iload_n 1, 1) := by decide +kernel
theorem dX11_heapAt_42 : decode cX11_heapAt 42 = .ok (.iadd, 1) := by decide +kernel
theorem dX11_heapAt_43 : decode cX11_heapAt 43 = .ok (.goto 4, 3) := by decide +kernel
theorem dX11_heapAt_46 : decode cX11_heapAt 46 = .ok (.iconst (-1), 1) := by decide +kernel
theorem dX11_heapAt_47 : decode cX11_heapAt 47 = .ok (.ireturn, 1) := by decide +kernel
theorem dX11_holdAt_0 : decode cX11_holdAt 0 = .ok (.aload_n 0, 1) := by decide +kernel
theorem dX11_holdAt_1 : decode cX11_holdAt 1 = .ok (.iload_n 1, 1) := by decide +kernel
theorem dX11_holdAt_2 : decode cX11_holdAt 2 = .ok (.iconst 0, 1) := by decide +kernel
theorem dX11_holdAt_3 : decode cX11_holdAt 3 = .ok (.iconst 3, 1) := by decide +kernel
theorem dX11_holdAt_4 : decode cX11_holdAt 4 = .ok (.invokevirtual 144, 3) := by decide +kernel
theorem dX11_holdAt_7 : decode cX11_holdAt 7 = .ok (.ifCond .eq 37, 3) := by decide +kernel
theorem dX11_holdAt_10 : decode cX11_holdAt 10 = .ok (.aload_n 0, 1) := by decide +kernel
theorem dX11_holdAt_11 : decode cX11_holdAt 11 = .ok (.iload_n 2, 1) := by decide +kernel
theorem dX11_holdAt_12 : decode cX11_holdAt 12 = .ok (.iconst 0, 1) := by decide +kernel
theorem dX11_holdAt_13 : decode cX11_holdAt 13 = .ok (.iconst 5, 1) := by decide +kernel
theorem dX11_holdAt_14 : decode cX11_holdAt 14 = .ok (.invokevirtual 144, 3) := by decide +kernel
theorem dX11_holdAt_17 : decode cX11_holdAt 17 = .ok (.ifCond .eq 27, 3) := by decide +kernel
theorem dX11_holdAt_20 : decode cX11_holdAt 20 = .ok (.aload_n 0, 1) := by decide +kernel
theorem dX11_holdAt_21 : decode cX11_holdAt 21 = .ok (.iload_n 3, 1) := by decide +kernel
theorem dX11_holdAt_22 : decode cX11_holdAt 22 = .ok (.iconst 0, 1) := by decide +kernel
theorem dX11_holdAt_23 : decode cX11_holdAt 23 = .ok (.iconst 5, 1) := by decide +kernel
theorem dX11_holdAt_24 : decode cX11_holdAt 24 = .ok (.invokevirtual 144, 3) := by decide +kernel
theorem dX11_holdAt_27 : decode cX11_holdAt 27 = .ok (.ifCond .eq 17, 3) := by decide +kernel
theorem dX11_holdAt_30 : decode cX11_holdAt 30 = .ok (.bipush 36, 2) := by decide +kernel
theorem dX11_holdAt_32 : decode cX11_holdAt 32 = .ok (.iload_n 1, 1) := by decide +kernel
theorem dX11_holdAt_33 : decode cX11_holdAt 33 = .ok (.imul, 1) := by decide +kernel
theorem dX11_holdAt_34 : decode cX11_holdAt 34 = .ok (.bipush 6, 2) := by decide +kernel
theorem dX11_holdAt_36 : decode cX11_holdAt 36 = .ok (.iload_n 2, 1) := by decide +kernel
theorem dX11_holdAt_37 : decode cX11_holdAt 37 = .ok (.imul, 1) := by decide +kernel
theorem dX11_holdAt_38 : decode cX11_holdAt 38 = .ok (.iadd, 1) := by decide +kernel
theorem dX11_holdAt_39 : decode cX11_holdAt 39 = .ok (.iload_n 3, 1) := by decide +kernel
theorem dX11_holdAt_40 : decode cX11_holdAt 40 = .ok (.iadd, 1) := by decide +kernel
theorem dX11_holdAt_41 : decode cX11_holdAt 41 = .ok (.goto 4, 3) := by decide +kernel
theorem dX11_holdAt_44 : decode cX11_holdAt 44 = .ok (.iconst (-1), 1) := by decide +kernel
theorem dX11_holdAt_45 : decode cX11_holdAt 45 = .ok (.ireturn, 1) := by decide +kernel
theorem dX11_wetOf_0 : decode cX11_wetOf 0 = .ok (.iload_n 1, 1) := by decide +kernel
theorem dX11_wetOf_1 : decode cX11_wetOf 1 = .ok (.ifCond .ne 7, 3) := by decide +kernel
theorem dX11_wetOf_4 : decode cX11_wetOf 4 = .ok (.iconst 0, 1) := by decide +kernel
theorem dX11_wetOf_5 : decode cX11_wetOf 5 = .ok (.goto 6, 3) := by decide +kernel
theorem dX11_wetOf_8 : decode cX11_wetOf 8 = .ok (.iload_n 2, 1) := by decide +kernel
theorem dX11_wetOf_9 : decode cX11_wetOf 9 = .ok (.iload_n 1, 1) := by decide +kernel
theorem dX11_wetOf_10 : decode cX11_wetOf 10 = .ok (.idiv, 1) := by decide +kernel
theorem dX11_wetOf_11 : decode cX11_wetOf 11 = .ok (.ireturn, 1) := by decide +kernel
theorem dX11_heap_0 : decode cX11_heap 0 = .ok (.aload_n 0, 1) := by decide +kernel
theorem dX11_heap_1 : decode cX11_heap 1 = .ok (.iconst 0, 1) := by decide +kernel
theorem dX11_heap_2 : decode cX11_heap 2 = .ok (.putfield 141, 3) := by decide +kernel
theorem dX11_heap_5 : decode cX11_heap 5 = .ok (.aload_n 0, 1) := by decide +kernel
theorem dX11_heap_6 : decode cX11_heap 6 = .ok (.iload_n 1, 1) := by decide +kernel
theorem dX11_heap_7 : decode cX11_heap 7 = .ok (.iload_n 2, 1) := by decide +kernel
theorem dX11_heap_8 : decode cX11_heap 8 = .ok (.iload_n 3, 1) := by decide +kernel
theorem dX11_heap_9 : decode cX11_heap 9 = .ok (.invokevirtual 151, 3) := by decide +kernel
theorem dX11_heap_12 : decode cX11_heap 12 = .ok (.istore 6, 2) := by decide +kernel
theorem dX11_heap_14 : decode cX11_heap 14 = .ok (.iload 6, 2) := by decide +kernel
theorem dX11_heap_16 : decode cX11_heap 16 = .ok (.iconst (-1), 1) := by decide +kernel
theorem dX11_heap_17 : decode cX11_heap 17 = .ok (.if_icmp .eq 38, 3) := by decide +kernel
theorem dX11_heap_20 : decode cX11_heap 20 = .ok (.aload_n 0, 1) := by decide +kernel
theorem dX11_heap_21 : decode cX11_heap 21 = .ok (.iload 4, 2) := by decide +kernel
theorem dX11_heap_23 : decode cX11_heap 23 = .ok (.iconst 0, 1) := by decide +kernel
theorem dX11_heap_24 : decode cX11_heap 24 = .ok (.bipush 99, 2) := by decide +kernel
theorem dX11_heap_26 : decode cX11_heap 26 = .ok (.invokevirtual 144, 3) := by decide +kernel
theorem dX11_heap_29 : decode cX11_heap 29 = .ok (.ifCond .eq 26, 3) := by decide +kernel
theorem dX11_heap_32 : decode cX11_heap 32 = .ok (.aload_n 0, 1) := by decide +kernel
theorem dX11_heap_33 : decode cX11_heap 33 = .ok (.iload 5, 2) := by decide +kernel
theorem dX11_heap_35 : decode cX11_heap 35 = .ok (.iconst 0, 1) := by decide +kernel
theorem dX11_heap_36 : decode cX11_heap 36 = .ok (.sipush 9999, 3) := by decide +kernel
theorem dX11_heap_39 : decode cX11_heap 39 = .ok (.invokevirtual 144, 3) := by decide +kernel
theorem dX11_heap_42 : decode cX11_heap 42 = .ok (.ifCond .eq 13, 3) := by decide +kernel
theorem dX11_heap_45 : decode cX11_heap 45 = .ok (.iload 4, 2) := by decide +kernel
theorem dX11_heap_47 : decode cX11_heap 47 = .ok (.ifCond .ne 10, 3) := by decide +kernel
theorem dX11_heap_50 : decode cX11_heap 50 = .ok (.iload 5, 2) := by decide +kernel
theorem dX11_heap_52 : decode cX11_heap 52 = .ok (.ifCond .le 5, 3) := by decide +kernel
theorem dX11_heap_55 : decode cX11_heap 55 = .ok (.iconst 0, 1) := by decide +kernel
theorem dX11_heap_56 : decode cX11_heap 56 = .ok (.ireturn, 1) := by decide +kernel
theorem dX11_heap_57 : decode cX11_heap 57 = .ok (.iload 4, 2) := by decide +kernel
theorem dX11_heap_59 : decode cX11_heap 59 = .ok (.ifCond .le 20, 3) := by decide +kernel
theorem dX11_heap_62 : decode cX11_heap 62 = .ok (.iload_n 3, 1) := by decide +kernel
theorem dX11_heap_63 : decode cX11_heap 63 = .ok (.ifCond .le 16, 3) := by decide +kernel
theorem dX11_heap_66 : decode cX11_heap 66 = .ok (.aload_n 0, 1) := by decide +kernel
theorem dX11_heap_67 : decode cX11_heap 67 = .ok (.getfield 16, 3) := by decide +kernel
theorem dX11_heap_70 : decode cX11_heap 70 = .ok (.iload 6, 2) := by decide +kernel
theorem dX11_heap_72 : decode cX11_heap 72 = .ok (.bipush 64, 2) := by decide +kernel
theorem dX11_heap_74 : decode cX11_heap 74 = .ok (.isub, 1) := by decide +kernel
theorem dX11_heap_75 : decode cX11_heap 75 = .ok (.iaload, 1) := by decide +kernel
theorem dX11_heap_76 : decode cX11_heap 76 = .ok (.ifCond .eq 26, 3) := by decide +kernel
theorem dX11_heap_79 : decode cX11_heap 79 = .ok (.iload 4, 2) := by decide +kernel
theorem dX11_heap_81 : decode cX11_heap 81 = .ok (.ifCond .ne 23, 3) := by decide +kernel
theorem dX11_heap_84 : decode cX11_heap 84 = .ok (.iload_n 3, 1) := by decide +kernel
theorem dX11_heap_85 : decode cX11_heap 85 = .ok (.iconst 3, 1) := by decide +kernel
theorem dX11_heap_86 : decode cX11_heap 86 = .ok (.if_icmp .ge 18, 3) := by decide +kernel
theorem dX11_heap_89 : decode cX11_heap 89 = .ok (.aload_n 0, 1) := by decide +kernel
theorem dX11_heap_90 : decode cX11_heap 90 = .ok (.getfield 16, 3) := by decide +kernel
theorem dX11_heap_93 : decode cX11_heap 93 = .ok (.iload 6, 2) := by decide +kernel
theorem dX11_heap_95 : decode cX11_heap 95 = .ok (.bipush 64, 2) := by decide +kernel
theorem dX11_heap_97 : decode cX11_heap 97 = .ok (.iadd, 1) := by decide +kernel
theorem dX11_heap_98 : decode cX11_heap 98 = .ok (.iaload, 1) := by decide +kernel
theorem dX11_heap_99 : decode cX11_heap 99 = .ok (.ifCond .le 5, 3) := by decide +kernel
theorem dX11_heap_102 : decode cX11_heap 102 = .ok (.iconst 0, 1) := by decide +kernel
theorem dX11_heap_103 : decode cX11_heap 103 = .ok (.ireturn, 1) := by decide +kernel
theorem dX11_heap_104 : decode cX11_heap 104 = .ok (.aload_n 0, 1) := by decide +kernel
theorem dX11_heap_105 : decode cX11_heap 105 = .ok (.getfield 16, 3) := by decide +kernel
theorem dX11_heap_108 : decode cX11_heap 108 = .ok (.iload 6, 2) := by decide +kernel
theorem dX11_heap_110 : decode cX11_heap 110 = .ok (.iload 4, 2) := by decide +kernel
theorem dX11_heap_112 : decode cX11_heap 112 = .ok (.iastore, 1) := by decide +kernel
theorem dX11_heap_113 : decode cX11_heap 113 = .ok (.aload_n 0, 1) := by decide +kernel
theorem dX11_heap_114 : decode cX11_heap 114 = .ok (.getfield 19, 3) := by decide +kernel
theorem dX11_heap_117 : decode cX11_heap 117 = .ok (.iload 6, 2) := by decide +kernel
theorem dX11_heap_119 : decode cX11_heap 119 = .ok (.iload 5, 2) := by decide +kernel
theorem dX11_heap_121 : decode cX11_heap 121 = .ok (.iastore, 1) := by decide +kernel
theorem dX11_heap_122 : decode cX11_heap 122 = .ok (.iconst 1, 1) := by decide +kernel
theorem dX11_heap_123 : decode cX11_heap 123 = .ok (.ireturn, 1) := by decide +kernel
theorem dX11_cell_0 : decode cX11_cell 0 = .ok (.aload_n 0, 1) := by decide +kernel
theorem dX11_cell_1 : decode cX11_cell 1 = .ok (.iconst 0, 1) := by decide +kernel
theorem dX11_cell_2 : decode cX11_cell 2 = .ok (.putfield 141, 3) := by decide +kernel
theorem dX11_cell_5 : decode cX11_cell 5 = .ok (.iload_n 1, 1) := by decide +kernel
theorem dX11_cell_6 : decode cX11_cell 6 = .ok (.iconst (-1), 1) := by decide +kernel
theorem dX11_cell_7 : decode cX11_cell 7 = .ok (.if_icmp .ne 14, 3) := by decide +kernel
theorem dX11_cell_10 : decode cX11_cell 10 = .ok (.aload_n 0, 1) := by decide +kernel
theorem dX11_cell_11 : decode cX11_cell 11 = .ok (.iload_n 2, 1) := by decide +kernel
theorem dX11_cell_12 : decode cX11_cell 12 = .ok (.iload_n 3, 1) := by decide +kernel
theorem dX11_cell_13 : decode cX11_cell 13 = .ok (.iload 4, 2) := by decide +kernel
theorem dX11_cell_15 : decode cX11_cell 15 = .ok (.invokevirtual 151, 3) := by decide +kernel
theorem dX11_cell_18 : decode cX11_cell 18 = .ok (.goto 11, 3) := by decide +kernel
theorem dX11_cell_21 : decode cX11_cell 21 = .ok (.aload_n 0, 1) := by decide +kernel
theorem dX11_cell_22 : decode cX11_cell 22 = .ok (.iload_n 1, 1) := by decide +kernel
theorem dX11_cell_23 : decode cX11_cell 23 = .ok (.iload_n 2, 1) := by decide +kernel
theorem dX11_cell_24 : decode cX11_cell 24 = .ok (.iload 4, 2) := by decide +kernel
theorem dX11_cell_26 : decode cX11_cell 26 = .ok (.invokevirtual 155, 3) := by decide +kernel
theorem dX11_cell_29 : decode cX11_cell 29 = .ok (.istore 6, 2) := by decide +kernel
theorem dX11_cell_31 : decode cX11_cell 31 = .ok (.iload 6, 2) := by decide +kernel
theorem dX11_cell_33 : decode cX11_cell 33 = .ok (.iconst (-1), 1) := by decide +kernel
theorem dX11_cell_34 : decode cX11_cell 34 = .ok (.if_icmp .eq 14, 3) := by decide +kernel
theorem dX11_cell_37 : decode cX11_cell 37 = .ok (.aload_n 0, 1) := by decide +kernel
theorem dX11_cell_38 : decode cX11_cell 38 = .ok (.iload 5, 2) := by decide +kernel
theorem dX11_cell_40 : decode cX11_cell 40 = .ok (.iconst 0, 1) := by decide +kernel
theorem dX11_cell_41 : decode cX11_cell 41 = .ok (.iconst 4, 1) := by decide +kernel
theorem dX11_cell_42 : decode cX11_cell 42 = .ok (.invokevirtual 144, 3) := by decide +kernel
theorem dX11_cell_45 : decode cX11_cell 45 = .ok (.ifCond .ne 5, 3) := by decide +kernel
theorem dX11_cell_48 : decode cX11_cell 48 = .ok (.iconst (-1), 1) := by decide +kernel
theorem dX11_cell_49 : decode cX11_cell 49 = .ok (.ireturn, 1) := by decide +kernel
theorem dX11_cell_50 : decode cX11_cell 50 = .ok (.iload_n 1, 1) := by decide +kernel
theorem dX11_cell_51 : decode cX11_cell 51 = .ok (.iconst (-1), 1) := by decide +kernel
theorem dX11_cell_52 : decode cX11_cell 52 = .ok (.if_icmp .ne 13, 3) := by decide +kernel
theorem dX11_cell_55 : decode cX11_cell 55 = .ok (.aload_n 0, 1) := by decide +kernel
theorem dX11_cell_56 : decode cX11_cell 56 = .ok (.getfield 16, 3) := by decide +kernel
theorem dX11_cell_59 : decode cX11_cell 59 = .ok (.iload 6, 2) := by decide +kernel
theorem dX11_cell_61 : decode cX11_cell 61 = .ok (.iaload, 1) := by decide +kernel
theorem dX11_cell_62 : decode cX11_cell 62 = .ok (.goto 10, 3) := by decide +kernel
theorem dX11_cell_65 : decode cX11_cell 65 = .ok (.aload_n 0, 1) := by decide +kernel
theorem dX11_cell_66 : decode cX11_cell 66 = .ok (.getfield 22, 3) := by decide +kernel
theorem dX11_cell_69 : decode cX11_cell 69 = .ok (.iload 6, 2) := by decide +kernel
theorem dX11_cell_71 : decode cX11_cell 71 = .ok (.iaload, 1) := by decide +kernel
theorem dX11_cell_72 : decode cX11_cell 72 = .ok (.istore 7, 2) := by decide +kernel
theorem dX11_cell_74 : decode cX11_cell 74 = .ok (.iload_n 1, 1) := by decide +kernel
theorem dX11_cell_75 : decode cX11_cell 75 = .ok (.iconst (-1), 1) := by decide +kernel
theorem dX11_cell_76 : decode cX11_cell 76 = .ok (.if_icmp .ne 13, 3) := by decide +kernel
theorem dX11_cell_79 : decode cX11_cell 79 = .ok (.aload_n 0, 1) := by decide +kernel
theorem dX11_cell_80 : decode cX11_cell 80 = .ok (.getfield 19, 3) := by decide +kernel
theorem dX11_cell_83 : decode cX11_cell 83 = .ok (.iload 6, 2) := by decide +kernel
theorem dX11_cell_85 : decode cX11_cell 85 = .ok (.iaload, 1) := by decide +kernel
theorem dX11_cell_86 : decode cX11_cell 86 = .ok (.goto 10, 3) := by decide +kernel
theorem dX11_cell_89 : decode cX11_cell 89 = .ok (.aload_n 0, 1) := by decide +kernel
theorem dX11_cell_90 : decode cX11_cell 90 = .ok (.getfield 25, 3) := by decide +kernel
theorem dX11_cell_93 : decode cX11_cell 93 = .ok (.iload 6, 2) := by decide +kernel
theorem dX11_cell_95 : decode cX11_cell 95 = .ok (.iaload, 1) := by decide +kernel
theorem dX11_cell_96 : decode cX11_cell 96 = .ok (.istore 8, 2) := by decide +kernel
theorem dX11_cell_98 : decode cX11_cell 98 = .ok (.iload 5, 2) := by decide +kernel
theorem dX11_cell_100 : decode cX11_cell 100 = .ok (.ifCond .ne 6, 3) := by decide +kernel
theorem dX11_cell_103 : decode cX11_cell 103 = .ok (.iload 7, 2) := by decide +kernel
theorem dX11_cell_105 : decode cX11_cell 105 = .ok (.ireturn, 1) := by decide +kernel
theorem dX11_cell_106 : decode cX11_cell 106 = .ok (.iload 5, 2) := by decide +kernel
theorem dX11_cell_108 : decode cX11_cell 108 = .ok (.iconst 1, 1) := by decide +kernel
theorem dX11_cell_109 : decode cX11_cell 109 = .ok (.if_icmp .ne 6, 3) := by decide +kernel
theorem dX11_cell_112 : decode cX11_cell 112 = .ok (.iload 8, 2) := by decide +kernel
theorem dX11_cell_114 : decode cX11_cell 114 = .ok (.ireturn, 1) := by decide +kernel
theorem dX11_cell_115 : decode cX11_cell 115 = .ok (.iload 5, 2) := by decide +kernel
theorem dX11_cell_117 : decode cX11_cell 117 = .ok (.iconst 2, 1) := by decide +kernel
theorem dX11_cell_118 : decode cX11_cell 118 = .ok (.if_icmp .ne 12, 3) := by decide +kernel
theorem dX11_cell_121 : decode cX11_cell 121 = .ok (.aload_n 0, 1) := by decide +kernel
theorem dX11_cell_122 : decode cX11_cell 122 = .ok (.iload 7, 2) := by decide +kernel
theorem dX11_cell_124 : decode cX11_cell 124 = .ok (.iload 8, 2) := by decide +kernel
theorem dX11_cell_126 : decode cX11_cell 126 = .ok (.invokevirtual 158, 3) := by decide +kernel
theorem dX11_cell_129 : decode cX11_cell 129 = .ok (.ireturn, 1) := by decide +kernel
theorem dX11_cell_130 : decode cX11_cell 130 = .ok (.iload_n 1, 1) := by decide +kernel
theorem dX11_cell_131 : decode cX11_cell 131 = .ok (.iconst (-1), 1) := by decide +kernel
theorem dX11_cell_132 : decode cX11_cell 132 = .ok (.if_icmp .ne 5, 3) := by decide +kernel
theorem dX11_cell_135 : decode cX11_cell 135 = .ok (.iconst 0, 1) := by decide +kernel
theorem dX11_cell_136 : decode cX11_cell 136 = .ok (.ireturn, 1) := by decide +kernel
theorem dX11_cell_137 : decode cX11_cell 137 = .ok (.iload 5, 2) := by decide +kernel
theorem dX11_cell_139 : decode cX11_cell 139 = .ok (.iconst 3, 1) := by decide +kernel
theorem dX11_cell_140 : decode cX11_cell 140 = .ok (.if_icmp .ne 13, 3) := by decide +kernel
theorem dX11_cell_143 : decode cX11_cell 143 = .ok (.aload_n 0, 1) := by decide +kernel
theorem dX11_cell_144 : decode cX11_cell 144 = .ok (.getfield 28, 3) := by decide +kernel
theorem dX11_cell_147 : decode cX11_cell 147 = .ok (.iload 6, 2) := by decide +kernel
theorem dX11_cell_149 : decode cX11_cell 149 = .ok (.iaload, 1) := by decide +kernel
theorem dX11_cell_150 : decode cX11_cell 150 = .ok (.goto 18, 3) := by decide +kernel
theorem dX11_cell_153 : decode cX11_cell 153 = .ok (.aload_n 0, 1) := by decide +kernel
theorem dX11_cell_154 : decode cX11_cell 154 = .ok (.getfield 31, 3) := by decide +kernel
theorem dX11_cell_157 : decode cX11_cell 157 = .ok (.iload 6, 2) := by decide +kernel
theorem dX11_cell_159 : decode cX11_cell 159 = .ok (.baload, 1) := by decide +kernel
theorem dX11_cell_160 : decode cX11_cell 160 = .ok (.ifCond .eq 7, 3) := by decide +kernel
theorem dX11_cell_163 : decode cX11_cell 163 = .ok (.iconst 1, 1) := by decide +kernel
theorem dX11_cell_164 : decode cX11_cell 164 = .ok (.goto 4, 3) := by decide +kernel
theorem dX11_cell_167 : decode cX11_cell 167 = .ok (.iconst 0, 1) := by decide +kernel
theorem dX11_cell_168 : decode cX11_cell 168 = .ok (.ireturn, 1) := by decide +kernel
theorem dX11_heapHeight_0 : decode cX11_heapHeight 0 = .ok (.iconst 0, 1) := by decide +kernel
theorem dX11_heapHeight_1 : decode cX11_heapHeight 1 = .ok (.istore_n 2, 1) := by decide +kernel
theorem dX11_heapHeight_2 : decode cX11_heapHeight 2 = .ok (.iload_n 2, 1) := by decide +kernel
theorem dX11_heapHeight_3 : decode cX11_heapHeight 3 = .ok (.iconst 4, 1) := by decide +kernel
theorem dX11_heapHeight_4 : decode cX11_heapHeight 4 = .ok (.if_icmp .ge 24, 3) := by decide +kernel
theorem dX11_heapHeight_7 : decode cX11_heapHeight 7 = .ok (.aload_n 0, 1) := by decide +kernel
theorem dX11_heapHeight_8 : decode cX11_heapHeight 8 = .ok (.getfield 16, 3) := by decide +kernel
theorem dX11_heapHeight_11 : decode cX11_heapHeight 11 = .ok (.bipush 64, 2) := by decide +kernel
theorem dX11_heapHeight_13 : decode cX11_heapHeight 13 = .ok (.iload_n 2, 1) := by decide +kernel
theorem dX11_heapHeight_14 : decode cX11_heapHeight 14 = .ok (.imul, 1) := by decide +kernel
theorem dX11_heapHeight_15 : decode cX11_heapHeight 15 = .ok (.iload_n 1, 1) := by decide +kernel
theorem dX11_heapHeight_16 : decode cX11_heapHeight 16 = .ok (.iadd, 1) := by decide +kernel
theorem dX11_heapHeight_17 : decode cX11_heapHeight 17 = .ok (.iaload, 1) := by decide +kernel
theorem dX11_heapHeight_18 : decode cX11_heapHeight 18 = .ok (.ifCond .le 10, 3) := by decide +kernel
theorem dX11_heapHeight_21 : decode cX11_heapHeight 21 = .ok (.iload_n 2, 1) := by decide +kernel
theorem dX11_heapHeight_22 : decode cX11_heapHeight 22 = .ok (.iconst 1, 1) := by decide +kernel
theorem dX11_heapHeight_23 : decode cX11_heapHeight 23 = .ok (.iadd, 1) := by decide +kernel
theorem dX11_heapHeight_24 : decode cX11_heapHeight 24 = .ok (.istore_n 2, 1) := by decide +kernel
theorem dX11_heapHeight_25 : decode cX11_heapHeight 25 = .ok (.goto (-23), 3) := by decide +kernel
theorem dX11_heapHeight_28 : decode cX11_heapHeight 28 = .ok (.iload_n 2, 1) := by decide +kernel
theorem dX11_heapHeight_29 : decode cX11_heapHeight 29 = .ok (.ireturn, 1) := by decide +kernel
theorem dX11_height_0 : decode cX11_height 0 = .ok (.iconst 0, 1) := by decide +kernel
theorem dX11_height_1 : decode cX11_height 1 = .ok (.istore_n 2, 1) := by decide +kernel
theorem dX11_height_2 : decode cX11_height 2 = .ok (.iload_n 2, 1) := by decide +kernel
theorem dX11_height_3 : decode cX11_height 3 = .ok (.bipush 6, 2) := by decide +kernel
theorem dX11_height_5 : decode cX11_height 5 = .ok (.if_icmp .ge 21, 3) := by decide +kernel
theorem dX11_height_8 : decode cX11_height 8 = .ok (.aload_n 0, 1) := by decide +kernel
theorem dX11_height_9 : decode cX11_height 9 = .ok (.getfield 22, 3) := by decide +kernel
theorem dX11_height_12 : decode cX11_height 12 = .ok (.iload_n 1, 1) := by decide +kernel
theorem dX11_height_13 : decode cX11_height 13 = .ok (.iload_n 2, 1) := by decide +kernel
theorem dX11_height_14 : decode cX11_height 14 = .ok (.iadd, 1) := by decide +kernel
theorem dX11_height_15 : decode cX11_height 15 = .ok (.iaload, 1) := by decide +kernel
theorem dX11_height_16 : decode cX11_height 16 = .ok (.ifCond .le 10, 3) := by decide +kernel
theorem dX11_height_19 : decode cX11_height 19 = .ok (.iload_n 2, 1) := by decide +kernel
theorem dX11_height_20 : decode cX11_height 20 = .ok (.iconst 1, 1) := by decide +kernel
theorem dX11_height_21 : decode cX11_height 21 = .ok (.iadd, 1) := by decide +kernel
theorem dX11_height_22 : decode cX11_height 22 = .ok (.istore_n 2, 1) := by decide +kernel
theorem dX11_height_23 : decode cX11_height 23 = .ok (.goto (-21), 3) := by decide +kernel
