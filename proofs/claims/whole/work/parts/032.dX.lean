theorem dX7_init_0 : decode cX7_init 0 = .ok (.aload_n 0, 1) := by decide +kernel
theorem dX7_init_1 : decode cX7_init 1 = .ok (.invokespecial 3, 3) := by decide +kernel
theorem dX7_init_4 : decode cX7_init 4 = .ok (.aload_n 0, 1) := by decide +kernel
theorem dX7_init_5 : decode cX7_init 5 = .ok (.bipush 30, 2) := by decide +kernel
theorem dX7_init_7 : decode cX7_init 7 = .ok (.newarray .int, 2) := by decide +kernel
theorem dX7_init_9 : decode cX7_init 9 = .ok (.putfield 11, 3) := by decide +kernel
theorem dX7_init_12 : decode cX7_init 12 = .ok (.aload_n 0, 1) := by decide +kernel
theorem dX7_init_13 : decode cX7_init 13 = .ok (.bipush 30, 2) := by decide +kernel
theorem dX7_init_15 : decode cX7_init 15 = .ok (.newarray .int, 2) := by decide +kernel
theorem dX7_init_17 : decode cX7_init 17 = .ok (.putfield 15, 3) := by decide +kernel
theorem dX7_init_20 : decode cX7_init 20 = .ok (.return_, 1) := by decide +kernel
theorem dX7_tell_0 : decode cX7_tell 0 = .ok (.iload_n 1, 1) := by decide +kernel
theorem dX7_tell_1 : decode cX7_tell 1 = .ok (.bipush 30, 2) := by decide +kernel
theorem dX7_tell_3 : decode cX7_tell 3 = .ok (.invokestatic 18, 3) := by decide +kernel
theorem dX7_tell_6 : decode cX7_tell 6 = .ok (.ifCond .eq 21, 3) := by decide +kernel
theorem dX7_tell_9 : decode cX7_tell 9 = .ok (.iload_n 2, 1) := by decide +kernel
theorem dX7_tell_10 : decode cX7_tell 10 = .ok (.bipush 10, 2) := by decide +kernel
theorem dX7_tell_12 : decode cX7_tell 12 = .ok (.invokestatic 18, 3) := by decide +kernel
theorem dX7_tell_15 : decode cX7_tell 15 = .ok (.ifCond .eq 12, 3) := by decide +kernel
theorem dX7_tell_18 : decode cX7_tell 18 = .ok (.iload_n 3, 1) := by decide +kernel
theorem dX7_tell_19 : decode cX7_tell 19 = .ok (.bipush 10, 2) := by decide +kernel
theorem dX7_tell_21 : decode cX7_tell 21 = .ok (.invokestatic 18, 3) := by decide +kernel
theorem dX7_tell_24 : decode cX7_tell 24 = .ok (.ifCond .ne 5, 3) := by decide +kernel
theorem dX7_tell_27 : decode cX7_tell 27 = .ok (.iconst 0, 1) := by decide +kernel
theorem dX7_tell_28 : decode cX7_tell 28 = .ok (.ireturn, 1) := by decide +kernel
theorem dX7_tell_29 : decode cX7_tell 29 = .ok (.aload_n 0, 1) := by decide +kernel
theorem dX7_tell_30 : decode cX7_tell 30 = .ok (.getfield 11, 3) := by decide +kernel
theorem dX7_tell_33 : decode cX7_tell 33 = .ok (.iload_n 1, 1) := by decide +kernel
theorem dX7_tell_34 : decode cX7_tell 34 = .ok (.iload_n 2, 1) := by decide +kernel
theorem dX7_tell_35 : decode cX7_tell 35 = .ok (.iastore, 1) := by decide +kernel
theorem dX7_tell_36 : decode cX7_tell 36 = .ok (.aload_n 0, 1) := by decide +kernel
theorem dX7_tell_37 : decode cX7_tell 37 = .ok (.getfield 15, 3) := by decide +kernel
theorem dX7_tell_40 : decode cX7_tell 40 = .ok (.iload_n 1, 1) := by decide +kernel
theorem dX7_tell_41 : decode cX7_tell 41 = .ok (.iload_n 3, 1) := by decide +kernel
theorem dX7_tell_42 : decode cX7_tell 42 = .ok (.iastore, 1) := by decide +kernel
theorem dX7_tell_43 : decode cX7_tell 43 = .ok (.iconst 1, 1) := by decide +kernel
theorem dX7_tell_44 : decode cX7_tell 44 = .ok (.ireturn, 1) := by decide +kernel
theorem dX7_rainAt_0 : decode cX7_rainAt 0 = .ok (.iload_n 1, 1) := by decide +kernel
theorem dX7_rainAt_1 : decode cX7_rainAt 1 = .ok (.sipush 720, 3) := by decide +kernel
theorem dX7_rainAt_4 : decode cX7_rainAt 4 = .ok (.invokestatic 18, 3) := by decide +kernel
theorem dX7_rainAt_7 : decode cX7_rainAt 7 = .ok (.ifCond .eq 15, 3) := by decide +kernel
theorem dX7_rainAt_10 : decode cX7_rainAt 10 = .ok (.aload_n 0, 1) := by decide +kernel
theorem dX7_rainAt_11 : decode cX7_rainAt 11 = .ok (.getfield 11, 3) := by decide +kernel
theorem dX7_rainAt_14 : decode cX7_rainAt 14 = .ok (.iload_n 1, 1) := by decide +kernel
theorem dX7_rainAt_15 : decode cX7_rainAt 15 = .ok (.bipush 24, 2) := by decide +kernel
theorem dX7_rainAt_17 : decode cX7_rainAt 17 = .ok (.idiv, 1) := by decide +kernel
theorem dX7_rainAt_18 : decode cX7_rainAt 18 = .ok (.iaload, 1) := by decide +kernel
theorem dX7_rainAt_19 : decode cX7_rainAt 19 = .ok (.goto 4, 3) := by decide +kernel
theorem dX7_rainAt_22 : decode cX7_rainAt 22 = .ok (.iconst 0, 1) := by decide +kernel
theorem dX7_rainAt_23 : decode cX7_rainAt 23 = .ok (.ireturn, 1) := by decide +kernel
theorem dX7_swellAt_0 : decode cX7_swellAt 0 = .ok (.iload_n 1, 1) := by decide +kernel
theorem dX7_swellAt_1 : decode cX7_swellAt 1 = .ok (.sipush 720, 3) := by decide +kernel
theorem dX7_swellAt_4 : decode cX7_swellAt 4 = .ok (.invokestatic 18, 3) := by decide +kernel
theorem dX7_swellAt_7 : decode cX7_swellAt 7 = .ok (.ifCond .eq 15, 3) := by decide +kernel
theorem dX7_swellAt_10 : decode cX7_swellAt 10 = .ok (.aload_n 0, 1) := by decide +kernel
theorem dX7_swellAt_11 : decode cX7_swellAt 11 = .ok (.getfield 15, 3) := by decide +kernel
theorem dX7_swellAt_14 : decode cX7_swellAt 14 = .ok (.iload_n 1, 1) := by decide +kernel
theorem dX7_swellAt_15 : decode cX7_swellAt 15 = .ok (.bipush 24, 2) := by decide +kernel
theorem dX7_swellAt_17 : decode cX7_swellAt 17 = .ok (.idiv, 1) := by decide +kernel
theorem dX7_swellAt_18 : decode cX7_swellAt 18 = .ok (.iaload, 1) := by decide +kernel
theorem dX7_swellAt_19 : decode cX7_swellAt 19 = .ok (.goto 4, 3) := by decide +kernel
theorem dX7_swellAt_22 : decode cX7_swellAt 22 = .ok (.iconst 0, 1) := by decide +kernel
theorem dX7_swellAt_23 : decode cX7_swellAt 23 = .ok (.ireturn, 1) := by decide +kernel
theorem dX8_init_0 : decode cX8_init 0 = .ok (.aload_n 0, 1) := by decide +kernel
theorem dX8_init_1 : decode cX8_init 1 = .ok (.invokespecial 3, 3) := by decide +kernel
theorem dX8_init_4 : decode cX8_init 4 = .ok (.aload_n 0, 1) := by decide +kernel
theorem dX8_init_5 : decode cX8_init 5 = .ok (.iload_n 1, 1) := by decide +kernel
theorem dX8_init_6 : decode cX8_init 6 = .ok (.putfield 9, 3) := by decide +kernel
theorem dX8_init_9 : decode cX8_init 9 = .ok (.aload_n 0, 1) := by decide +kernel
theorem dX8_init_10 : decode cX8_init 10 = .ok (.iload_n 2, 1) := by decide +kernel
theorem dX8_init_11 : decode cX8_init 11 = .ok (.putfield 15, 3) := by decide +kernel
theorem dX8_init_14 : decode cX8_init 14 = .ok (.aload_n 0, 1) := by decide +kernel
theorem dX8_init_15 : decode cX8_init 15 = .ok (.iload_n 3, 1) := by decide +kernel
theorem dX8_init_16 : decode cX8_init 16 = .ok (.putfield 18, 3) := by decide +kernel
theorem dX8_init_19 : decode cX8_init 19 = .ok (.iconst 0, 1) := by decide +kernel
theorem dX8_init_20 : decode cX8_init 20 = .ok (.iload_n 1, 1) := by decide +kernel
theorem dX8_init_21 : decode cX8_init 21 = .ok (.iload_n 2, 1) := by decide +kernel
theorem dX8_init_22 : decode cX8_init 22 = .ok (.imul, 1) := by decide +kernel
theorem dX8_init_23 : decode cX8_init 23 = .ok (.invokestatic 22, 3) := by decide +kernel
theorem dX8_init_26 : decode cX8_init 26 = .ok (.istore 4, 2) := by decide +kernel
theorem dX8_init_28 : decode cX8_init 28 = .ok (.aload_n 0, 1) := by decide +kernel
theorem dX8_init_29 : decode cX8_init 29 = .ok (.iload 4, 2) := by decide +kernel
theorem dX8_init_31 : decode cX8_init 31 = .ok (.newarray .int, 2) := by decide +kernel
theorem dX8_init_33 : decode cX8_init 33 = .ok (.putfield 28, 3) := by decide +kernel
theorem dX8_init_36 : decode cX8_init 36 = .ok (.aload_n 0, 1) := by decide +kernel
theorem dX8_init_37 : decode cX8_init 37 = .ok (.iload 4, 2) := by decide +kernel
theorem dX8_init_39 : decode cX8_init 39 = .ok (.newarray .int, 2) := by decide +kernel
theorem dX8_init_41 : decode cX8_init 41 = .ok (.putfield 32, 3) := by decide +kernel
theorem dX8_init_44 : decode cX8_init 44 = .ok (.aload_n 0, 1) := by decide +kernel
theorem dX8_init_45 : decode cX8_init 45 = .ok (.iload 4, 2) := by decide +kernel
theorem dX8_init_47 : decode cX8_init 47 = .ok (.newarray .int, 2) := by decide +kernel
theorem dX8_init_49 : decode cX8_init 49 = .ok (.putfield 35, 3) := by decide +kernel
theorem dX8_init_52 : decode cX8_init 52 = .ok (.aload_n 0, 1) := by decide +kernel
theorem dX8_init_53 : decode cX8_init 53 = .ok (.iload 4, 2) := by decide +kernel
theorem dX8_init_55 : decode cX8_init 55 = .ok (.newarray .int, 2) := by decide +kernel
theorem dX8_init_57 : decode cX8_init 57 = .ok (.putfield 38, 3) := by decide +kernel
theorem dX8_init_60 : decode cX8_init 60 = .ok (.return_, 1) := by decide +kernel
theorem dX8_copyFrom_0 : decode cX8_copyFrom 0 = .ok (.aload_n 0, 1) := by decide +kernel
theorem dX8_copyFrom_1 : decode cX8_copyFrom 1 = .ok (.getfield 28, 3) := by decide +kernel
theorem dX8_copyFrom_4 : decode cX8_copyFrom 4 = .ok (.arraylength, 1) := by decide +kernel
theorem dX8_copyFrom_5 : decode cX8_copyFrom 5 = .ok (.aload_n 1, 1) := by decide +kernel
theorem dX8_copyFrom_6 : decode cX8_copyFrom 6 = .ok (.getfield 28, 3) := by decide +kernel
theorem dX8_copyFrom_9 : decode cX8_copyFrom 9 = .ok (.arraylength, 1) := by decide +kernel
theorem dX8_copyFrom_10 : decode cX8_copyFrom 10 = .ok (.invokestatic 41, 3) := by decide +kernel
theorem dX8_copyFrom_13 : decode cX8_copyFrom 13 = .ok (.istore_n 2, 1) := by decide +kernel
theorem dX8_copyFrom_14 : decode cX8_copyFrom 14 = .ok (.aload_n 1, 1) := by decide +kernel
theorem dX8_copyFrom_15 : decode cX8_copyFrom 15 = .ok (.getfield 28, 3) := by decide +kernel
theorem dX8_copyFrom_18 : decode cX8_copyFrom 18 = .ok (.iconst 0, 1) := by decide +kernel
theorem dX8_copyFrom_19 : decode cX8_copyFrom 19 = .ok (.aload_n 0, 1) := by decide +kernel
theorem dX8_copyFrom_20 : decode cX8_copyFrom 20 = .ok (.getfield 28, 3) := by decide +kernel
theorem dX8_copyFrom_23 : decode cX8_copyFrom 23 = .ok (.iconst 0, 1) := by decide +kernel
theorem dX8_copyFrom_24 : decode cX8_copyFrom 24 = .ok (.iload_n 2, 1) := by decide +kernel
theorem dX8_copyFrom_25 : decode cX8_copyFrom 25 = .ok (.invokestatic 44, 3) := by decide +kernel
theorem dX8_copyFrom_28 : decode cX8_copyFrom 28 = .ok (.aload_n 1, 1) := by decide +kernel
theorem dX8_copyFrom_29 : decode cX8_copyFrom 29 = .ok (.getfield 32, 3) := by decide +kernel
theorem dX8_copyFrom_32 : decode cX8_copyFrom 32 = .ok (.iconst 0, 1) := by decide +kernel
theorem dX8_copyFrom_33 : decode cX8_copyFrom 33 = .ok (.aload_n 0, 1) := by decide +kernel
theorem dX8_copyFrom_34 : decode cX8_copyFrom 34 = .ok (.getfield 32, 3) := by decide +kernel
theorem dX8_copyFrom_37 : decode cX8_copyFrom 37 = .ok (.iconst 0, 1) := by decide +kernel
theorem dX8_copyFrom_38 : decode cX8_copyFrom 38 = .ok (.iload_n 2, 1) := by decide +kernel
theorem dX8_copyFrom_39 : decode cX8_copyFrom 39 = .ok (.invokestatic 44, 3) := by decide +kernel
theorem dX8_copyFrom_42 : decode cX8_copyFrom 42 = .ok (.aload_n 1, 1) := by decide +kernel
theorem dX8_copyFrom_43 : decode cX8_copyFrom 43 = .ok (.getfield 35, 3) := by decide +kernel
theorem dX8_copyFrom_46 : decode cX8_copyFrom 46 = .ok (.iconst 0, 1) := by decide +kernel
theorem dX8_copyFrom_47 : decode cX8_copyFrom 47 = .ok (.aload_n 0, 1) := by decide +kernel
theorem dX8_copyFrom_48 : decode cX8_copyFrom 48 = .ok (.getfield 35, 3) := by decide +kernel
theorem dX8_copyFrom_51 : decode cX8_copyFrom 51 = .ok (.iconst 0, 1) := by decide +kernel
theorem dX8_copyFrom_52 : decode cX8_copyFrom 52 = .ok (.iload_n 2, 1) := by decide +kernel
theorem dX8_copyFrom_53 : decode cX8_copyFrom 53 = .ok (.invokestatic 44, 3) := by decide +kernel
theorem dX8_copyFrom_56 : decode cX8_copyFrom 56 = .ok (.aload_n 1, 1) := by decide +kernel
theorem dX8_copyFrom_57 : decode cX8_copyFrom 57 = .ok (.getfield 38, 3) := by decide +kernel
theorem dX8_copyFrom_60 : decode cX8_copyFrom 60 = .ok (.iconst 0, 1) := by decide +kernel
theorem dX8_copyFrom_61 : decode cX8_copyFrom 61 = .ok (.aload_n 0, 1) := by decide +kernel
theorem dX8_copyFrom_62 : decode cX8_copyFrom 62 = .ok (.getfield 38, 3) := by decide +kernel
theorem dX8_copyFrom_65 : decode cX8_copyFrom 65 = .ok (.iconst 0, 1) := by decide +kernel
theorem dX8_copyFrom_66 : decode cX8_copyFrom 66 = .ok (.iload_n 2, 1) := by decide +kernel
theorem dX8_copyFrom_67 : decode cX8_copyFrom 67 = .ok (.invokestatic 44, 3) := by decide +kernel
theorem dX8_copyFrom_70 : decode cX8_copyFrom 70 = .ok (.aload_n 0, 1) := by decide +kernel
theorem dX8_copyFrom_71 : decode cX8_copyFrom 71 = .ok (.aload_n 1, 1) := by decide +kernel
theorem dX8_copyFrom_72 : decode cX8_copyFrom 72 = .ok (.getfield 50, 3) := by decide +kernel
theorem dX8_copyFrom_75 : decode cX8_copyFrom 75 = .ok (.putfield 50, 3) := by decide +kernel
theorem dX8_copyFrom_78 : decode cX8_copyFrom 78 = .ok (.return_, 1) := by decide +kernel
theorem dX8_wetAt_0 : decode cX8_wetAt 0 = .ok (.aload_n 0, 1) := by decide +kernel
theorem dX8_wetAt_1 : decode cX8_wetAt 1 = .ok (.getfield 28, 3) := by decide +kernel
theorem dX8_wetAt_4 : decode cX8_wetAt 4 = .ok (.iload_n 1, 1) := by decide +kernel
theorem dX8_wetAt_5 : decode cX8_wetAt 5 = .ok (.iaload, 1) := by decide +kernel
theorem dX8_wetAt_6 : decode cX8_wetAt 6 = .ok (.ifCond .le 19, 3) := by decide +kernel
theorem dX8_wetAt_9 : decode cX8_wetAt 9 = .ok (.aload_n 0, 1) := by decide +kernel
theorem dX8_wetAt_10 : decode cX8_wetAt 10 = .ok (.getfield 32, 3) := by decide +kernel
theorem dX8_wetAt_13 : decode cX8_wetAt 13 = .ok (.iload_n 1, 1) := by decide +kernel
theorem dX8_wetAt_14 : decode cX8_wetAt 14 = .ok (.iaload, 1) := by decide +kernel
theorem dX8_wetAt_15 : decode cX8_wetAt 15 = .ok (.aload_n 0, 1) := by decide +kernel
theorem dX8_wetAt_16 : decode cX8_wetAt 16 = .ok (.getfield 28, 3) := by decide +kernel
theorem dX8_wetAt_19 : decode cX8_wetAt 19 = .ok (.iload_n 1, 1) := by decide +kernel
theorem dX8_wetAt_20 : decode cX8_wetAt 20 = .ok (.iaload, 1) := by decide +kernel
theorem dX8_wetAt_21 : decode cX8_wetAt 21 = .ok (.idiv, 1) := by decide +kernel
theorem dX8_wetAt_22 : decode cX8_wetAt 22 = .ok (.goto 4, 3) := by decide +kernel
theorem dX8_wetAt_25 : decode cX8_wetAt 25 = .ok (.iconst 0, 1) := by decide +kernel
theorem dX8_wetAt_26 : decode cX8_wetAt 26 = .ok (.ireturn, 1) := by decide +kernel
theorem dX8_height_0 : decode cX8_height 0 = .ok (.iload_n 1, 1) := by decide +kernel
theorem dX8_height_1 : decode cX8_height 1 = .ok (.aload_n 0, 1) := by decide +kernel
theorem dX8_height_2 : decode cX8_height 2 = .ok (.getfield 9, 3) := by decide +kernel
theorem dX8_height_5 : decode cX8_height 5 = .ok (.invokestatic 53, 3) := by decide +kernel
theorem dX8_height_8 : decode cX8_height 8 = .ok (.ifCond .ne 5, 3) := by decide +kernel
theorem dX8_height_11 : decode cX8_height 11 = .ok (.iconst 0, 1) := by decide +kernel
theorem dX8_height_12 : decode cX8_height 12 = .ok (.ireturn, 1) := by decide +kernel
theorem dX8_height_13 : decode cX8_height 13 = .ok (.aload_n 0, 1) := by decide +kernel
theorem dX8_height_14 : decode cX8_height 14 = .ok (.getfield 15, 3) := by decide +kernel
theorem dX8_height_17 : decode cX8_height 17 = .ok (.iconst 1, 1) := by decide +kernel
theorem dX8_height_18 : decode cX8_height 18 = .ok (.isub, 1) := by decide +kernel
theorem dX8_height_19 : decode cX8_height 19 = .ok (.istore_n 2, 1) := by decide +kernel
theorem dX8_height_20 : decode cX8_height 20 = .ok (.iload_n 2, 1) := by decide +kernel
theorem dX8_height_21 : decode cX8_height 21 = .ok (.ifCond .lt 29, 3) := by decide +kernel
theorem dX8_height_24 : decode cX8_height 24 = .ok (.aload_n 0, 1) := by decide +kernel
theorem dX8_height_25 : decode cX8_height 25 = .ok (.getfield 28, 3) := by decide +kernel
theorem dX8_height_28 : decode cX8_height 28 = .ok (.iload_n 1, 1) := by decide +kernel
theorem dX8_height_29 : decode cX8_height 29 = .ok (.aload_n 0, 1) := by decide +kernel
theorem dX8_height_30 : decode cX8_height 30 = .ok (.getfield 15, 3) := by decide +kernel
theorem dX8_height_33 : decode cX8_height 33 = .ok (.imul, 1) := by decide +kernel
theorem dX8_height_34 : decode cX8_height 34 = .ok (.iload_n 2, 1) := by decide +kernel
theorem dX8_height_35 : decode cX8_height 35 = .ok (.iadd, 1) := by decide +kernel
theorem dX8_height_36 : decode cX8_height 36 = .ok (.iaload, 1) := by decide +kernel
theorem dX8_height_37 : decode cX8_height 37 = .ok (.ifCond .le 7, 3) := by decide +kernel
theorem dX8_height_40 : decode cX8_height 40 = .ok (.iload_n 2, 1) := by decide +kernel
theorem dX8_height_41 : decode cX8_height 41 = .ok (.iconst 1, 1) := by decide +kernel
theorem dX8_height_42 : decode cX8_height 42 = .ok (.iadd, 1) := by decide +kernel
theorem dX8_height_43 : decode cX8_height 43 = .ok (.ireturn, 1) := by decide +kernel
theorem dX8_height_44 : decode cX8_height 44 = .ok (.iinc 2 (-1), 3) := by decide +kernel
theorem dX8_height_47 : decode cX8_height 47 = .ok (.goto (-27), 3) := by decide +kernel
theorem dX8_height_50 : decode cX8_height 50 = .ok (.iconst 0, 1) := by decide +kernel
theorem dX8_height_51 : decode cX8_height 51 = .ok (.ireturn, 1) := by decide +kernel
theorem dX8_cellsWithOre_0 : decode cX8_cellsWithOre 0 = .ok (.iconst 0, 1) := by decide +kernel
theorem dX8_cellsWithOre_1 : decode cX8_cellsWithOre 1 = .ok (.istore_n 1, 1) := by decide +kernel
theorem dX8_cellsWithOre_2 : decode cX8_cellsWithOre 2 = .ok (.iconst 0, 1) := by decide +kernel
theorem dX8_cellsWithOre_3 : decode cX8_cellsWithOre 3 = .ok (.istore_n 2, 1) := by decide +kernel
theorem dX8_cellsWithOre_4 : decode cX8_cellsWithOre 4 = .ok (.iload_n 2, 1) := by decide +kernel
theorem dX8_cellsWithOre_5 : decode cX8_cellsWithOre 5 = .ok (.aload_n 0, 1) := by decide +kernel
theorem dX8_cellsWithOre_6 : decode cX8_cellsWithOre 6 = .ok (.getfield 28, 3) := by decide +kernel
theorem dX8_cellsWithOre_9 : decode cX8_cellsWithOre 9 = .ok (.arraylength, 1) := by decide +kernel
theorem dX8_cellsWithOre_10 : decode cX8_cellsWithOre 10 = .ok (.if_icmp .ge 26, 3) := by decide +kernel
theorem dX8_cellsWithOre_13 : decode cX8_cellsWithOre 13 = .ok (.iload_n 1, 1) := by decide +kernel
theorem dX8_cellsWithOre_14 : decode cX8_cellsWithOre 14 = .ok (.aload_n 0, 1) := by decide +kernel
theorem dX8_cellsWithOre_15 : decode cX8_cellsWithOre 15 = .ok (.getfield 28, 3) := by decide +kernel
theorem dX8_cellsWithOre_18 : decode cX8_cellsWithOre 18 = .ok (.iload_n 2, 1) := by decide +kernel
theorem dX8_cellsWithOre_19 : decode cX8_cellsWithOre 19 = .ok (.iaload, 1) := by decide +kernel
theorem dX8_cellsWithOre_20 : decode cX8_cellsWithOre 20 = .ok (.ifCond .le 7, 3) := by decide +kernel
theorem dX8_cellsWithOre_23 : decode cX8_cellsWithOre 23 = .ok (.iconst 1, 1) := by decide +kernel
theorem dX8_cellsWithOre_24 : decode cX8_cellsWithOre 24 = .ok (.goto 4, 3) := by decide +kernel
theorem dX8_cellsWithOre_27 : decode cX8_cellsWithOre 27 = .ok (.iconst 0, 1) := by decide +kernel
theorem dX8_cellsWithOre_28 : decode cX8_cellsWithOre 28 = .ok (.iadd, 1) := by decide +kernel
theorem dX8_cellsWithOre_29 : decode cX8_cellsWithOre 29 = .ok (.istore_n 1, 1) := by decide +kernel
theorem dX8_cellsWithOre_30 : decode cX8_cellsWithOre 30 = .ok (.iinc 2 1, 3) := by decide +kernel
theorem dX8_cellsWithOre_33 : decode cX8_cellsWithOre 33 = .ok (.goto (-29), 3) := by decide +kernel
theorem dX8_cellsWithOre_36 : decode cX8_cellsWithOre 36 = .ok (.iload_n 1, 1) := by decide +kernel
theorem dX8_cellsWithOre_37 : decode cX8_cellsWithOre 37 = .ok (.ireturn, 1) := by decide +kernel
theorem dX8_cellsOfSoup_0 : decode cX8_cellsOfSoup 0 = .ok (.iconst 0, 1) := by decide +kernel
theorem dX8_cellsOfSoup_1 : decode cX8_cellsOfSoup 1 = .ok (.istore_n 1, 1) := by decide +kernel
theorem dX8_cellsOfSoup_2 : decode cX8_cellsOfSoup 2 = .ok (.iconst 0, 1) := by decide +kernel
theorem dX8_cellsOfSoup_3 : decode cX8_cellsOfSoup 3 = .ok (.istore_n 2, 1) := by decide +kernel
theorem dX8_cellsOfSoup_4 : decode cX8_cellsOfSoup 4 = .ok (.iload_n 2, 1) := by decide +kernel
theorem dX8_cellsOfSoup_5 : decode cX8_cellsOfSoup 5 = .ok (.aload_n 0, 1) := by decide +kernel
theorem dX8_cellsOfSoup_6 : decode cX8_cellsOfSoup 6 = .ok (.getfield 38, 3) := by decide +kernel
theorem dX8_cellsOfSoup_9 : decode cX8_cellsOfSoup 9 = .ok (.arraylength, 1) := by decide +kernel
theorem dX8_cellsOfSoup_10 : decode cX8_cellsOfSoup 10 = .ok (.if_icmp .ge 18, 3) := by decide +kernel
theorem dX8_cellsOfSoup_13 : decode cX8_cellsOfSoup 13 = .ok (.iload_n 1, 1) := by decide +kernel
theorem dX8_cellsOfSoup_14 : decode cX8_cellsOfSoup 14 = .ok (.aload_n 0, 1) := by decide +kernel
theorem dX8_cellsOfSoup_15 : decode cX8_cellsOfSoup 15 = .ok (.getfield 38, 3) := by decide +kernel
theorem dX8_cellsOfSoup_18 : decode cX8_cellsOfSoup 18 = .ok (.iload_n 2, 1) := by decide +kernel
theorem dX8_cellsOfSoup_19 : decode cX8_cellsOfSoup 19 = .ok (.iaload, 1) := by decide +kernel
theorem dX8_cellsOfSoup_20 : decode cX8_cellsOfSoup 20 = .ok (.iadd, 1) := by decide +kernel
theorem dX8_cellsOfSoup_21 : decode cX8_cellsOfSoup 21 = .ok (.istore_n 1, 1) := by decide +kernel
theorem dX8_cellsOfSoup_22 : decode cX8_cellsOfSoup 22 = .ok (.iinc 2 1, 3) := by decide +kernel
theorem dX8_cellsOfSoup_25 : decode cX8_cellsOfSoup 25 = .ok (.goto (-21), 3) := by decide +kernel
theorem dX8_cellsOfSoup_28 : decode cX8_cellsOfSoup 28 = .ok (.iload_n 1, 1) := by decide +kernel
theorem dX8_cellsOfSoup_29 : decode cX8_cellsOfSoup 29 = .ok (.ireturn, 1) := by decide +kernel
theorem dX8_lawOf_0 : decode cX8_lawOf 0 = .ok (.aload_n 0, 1) := by decide +kernel
theorem dX8_lawOf_1 : decode cX8_lawOf 1 = .ok (.getfield 15, 3) := by decide +kernel
theorem dX8_lawOf_4 : decode cX8_lawOf 4 = .ok (.iconst 1, 1) := by decide +kernel
theorem dX8_lawOf_5 : decode cX8_lawOf 5 = .ok (.if_icmp .lt 12, 3) := by decide +kernel
theorem dX8_lawOf_8 : decode cX8_lawOf 8 = .ok (.aload_n 0, 1) := by decide +kernel
theorem dX8_lawOf_9 : decode cX8_lawOf 9 = .ok (.getfield 28, 3) := by decide +kernel
theorem dX8_lawOf_12 : decode cX8_lawOf 12 = .ok (.iload_n 3, 1) := by decide +kernel
theorem dX8_lawOf_13 : decode cX8_lawOf 13 = .ok (.iaload, 1) := by decide +kernel
theorem dX8_lawOf_14 : decode cX8_lawOf 14 = .ok (.ifCond .ne 5, 3) := by decide +kernel
theorem dX8_lawOf_17 : decode cX8_lawOf 17 = .ok (.iconst 0, 1) := by decide +kernel
theorem dX8_lawOf_18 : decode cX8_lawOf 18 = .ok (.ireturn, 1) := by decide +kernel
theorem dX8_lawOf_19 : decode cX8_lawOf 19 = .ok (.iload_n 3, 1) := by decide +kernel
theorem dX8_lawOf_20 : decode cX8_lawOf 20 = .ok (.aload_n 0, 1) := by decide +kernel
theorem dX8_lawOf_21 : decode cX8_lawOf 21 = .ok (.getfield 15, 3) := by decide +kernel
theorem dX8_lawOf_24 : decode cX8_lawOf 24 = .ok (.irem, 1) := by decide +kernel
theorem dX8_lawOf_25 : decode cX8_lawOf 25 = .ok (.istore 4, 2) := by decide +kernel
theorem dX8_lawOf_27 : decode cX8_lawOf 27 = .ok (.aload_n 1, 1) := by decide +kernel
theorem dX8_lawOf_28 : decode cX8_lawOf 28 = .ok (.aload_n 0, 1) := by decide +kernel
theorem dX8_lawOf_29 : decode cX8_lawOf 29 = .ok (.getfield 28, 3) := by decide +kernel
theorem dX8_lawOf_32 : decode cX8_lawOf 32 = .ok (.iload_n 3, 1) := by decide +kernel
theorem dX8_lawOf_33 : decode cX8_lawOf 33 = .ok (.iaload, 1) := by decide +kernel
theorem dX8_lawOf_34 : decode cX8_lawOf 34 = .ok (.aload_n 0, 1) := by decide +kernel
theorem dX8_lawOf_35 : decode cX8_lawOf 35 = .ok (.getfield 32, 3) := by decide +kernel
theorem dX8_lawOf_38 : decode cX8_lawOf 38 = .ok (.iload_n 3, 1) := by decide +kernel
theorem dX8_lawOf_39 : decode cX8_lawOf 39 = .ok (.iaload, 1) := by decide +kernel
theorem dX8_lawOf_40 : decode cX8_lawOf 40 = .ok (.iload 4, 2) := by decide +kernel
theorem dX8_lawOf_42 : decode cX8_lawOf 42 = .ok (.aload_n 0, 1) := by decide +kernel
theorem dX8_lawOf_43 : decode cX8_lawOf 43 = .ok (.getfield 35, 3) := by decide +kernel
theorem dX8_lawOf_46 : decode cX8_lawOf 46 = .ok (.iload_n 3, 1) := by decide +kernel
theorem dX8_lawOf_47 : decode cX8_lawOf 47 = .ok (.iaload, 1) := by decide +kernel
theorem dX8_lawOf_48 : decode cX8_lawOf 48 = .ok (.invokevirtual 57, 3) := by decide +kernel
theorem dX8_lawOf_51 : decode cX8_lawOf 51 = .ok (.aload_n 1, 1) := by decide +kernel
theorem dX8_lawOf_52 : decode cX8_lawOf 52 = .ok (.aload_n 0, 1) := by decide +kernel
theorem dX8_lawOf_53 : decode cX8_lawOf 53 = .ok (.getfield 18, 3) := by decide +kernel
theorem dX8_lawOf_56 : decode cX8_lawOf 56 = .ok (.ifCond .eq 23, 3) := by decide +kernel
theorem dX8_lawOf_59 : decode cX8_lawOf 59 = .ok (.aload_n 0, 1) := by decide +kernel
theorem dX8_lawOf_60 : decode cX8_lawOf 60 = .ok (.aload_n 1, 1) := by decide +kernel
theorem dX8_lawOf_61 : decode cX8_lawOf 61 = .ok (.iload_n 3, 1) := by decide +kernel
theorem dX8_lawOf_62 : decode cX8_lawOf 62 = .ok (.aload_n 0, 1) := by decide +kernel
theorem dX8_lawOf_63 : decode cX8_lawOf 63 = .ok (.getfield 15, 3) := by decide +kernel
theorem dX8_lawOf_66 : decode cX8_lawOf 66 = .ok (.idiv, 1) := by decide +kernel
theorem dX8_lawOf_67 : decode cX8_lawOf 67 = .ok (.iload 4, 2) := by decide +kernel
theorem dX8_lawOf_69 : decode cX8_lawOf 69 = .ok (.invokevirtual 63, 3) := by decide +kernel
theorem dX8_lawOf_72 : decode cX8_lawOf 72 = .ok (.ifCond .eq 7, 3) := by decide +kernel
theorem dX8_lawOf_75 : decode cX8_lawOf 75 = .ok (.iconst 1, 1) := by decide +kernel
theorem dX8_lawOf_76 : decode cX8_lawOf 76 = .ok (.goto 4, 3) := by decide +kernel
theorem dX8_lawOf_79 : decode cX8_lawOf 79 = .ok (.iconst 0, 1) := by decide +kernel
theorem dX8_lawOf_80 : decode cX8_lawOf 80 = .ok (.invokevirtual 67, 3) := by decide +kernel
theorem dX8_lawOf_83 : decode cX8_lawOf 83 = .ok (.aload_n 1, 1) := by decide +kernel
theorem dX8_lawOf_84 : decode cX8_lawOf 84 = .ok (.iload_n 2, 1) := by decide +kernel
theorem dX8_lawOf_85 : decode cX8_lawOf 85 = .ok (.invokevirtual 71, 3) := by decide +kernel
theorem dX8_lawOf_88 : decode cX8_lawOf 88 = .ok (.ireturn, 1) := by decide +kernel
theorem dX8_isLit_0 : decode cX8_isLit 0 = .ok (.iload_n 2, 1) := by decide +kernel
theorem dX8_isLit_1 : decode cX8_isLit 1 = .ok (.bipush 8, 2) := by decide +kernel
theorem dX8_isLit_3 : decode cX8_isLit 3 = .ok (.idiv, 1) := by decide +kernel
theorem dX8_isLit_4 : decode cX8_isLit 4 = .ok (.iconst 4, 1) := by decide +kernel
theorem dX8_isLit_5 : decode cX8_isLit 5 = .ok (.if_icmp .ge 8, 3) := by decide +kernel
theorem dX8_isLit_8 : decode cX8_isLit 8 = .ok (.bipush 6, 2) := by decide +kernel
theorem dX8_isLit_10 : decode cX8_isLit 10 = .ok (.goto 5, 3) := by decide +kernel
theorem dX8_isLit_13 : decode cX8_isLit 13 = .ok (.bipush 12, 2) := by decide +kernel
theorem dX8_isLit_15 : decode cX8_isLit 15 = .ok (.istore 4, 2) := by decide +kernel
theorem dX8_isLit_17 : decode cX8_isLit 17 = .ok (.aload_n 1, 1) := by decide +kernel
theorem dX8_isLit_18 : decode cX8_isLit 18 = .ok (.invokevirtual 75, 3) := by decide +kernel
theorem dX8_isLit_21 : decode cX8_isLit 21 = .ok (.iload 4, 2) := by decide +kernel
theorem dX8_isLit_23 : decode cX8_isLit 23 = .ok (.isub, 1) := by decide +kernel
theorem dX8_isLit_24 : decode cX8_isLit 24 = .ok (.bipush 6, 2) := by decide +kernel
theorem dX8_isLit_26 : decode cX8_isLit 26 = .ok (.invokestatic 53, 3) := by decide +kernel
theorem dX8_isLit_29 : decode cX8_isLit 29 = .ok (.ifCond .eq 18, 3) := by decide +kernel
theorem dX8_isLit_32 : decode cX8_isLit 32 = .ok (.iload_n 3, 1) := by decide +kernel
theorem dX8_isLit_33 : decode cX8_isLit 33 = .ok (.iconst 1, 1) := by decide +kernel
theorem dX8_isLit_34 : decode cX8_isLit 34 = .ok (.iadd, 1) := by decide +kernel
theorem dX8_isLit_35 : decode cX8_isLit 35 = .ok (.aload_n 0, 1) := by decide +kernel
theorem dX8_isLit_36 : decode cX8_isLit 36 = .ok (.iload_n 2, 1) := by decide +kernel
theorem dX8_isLit_37 : decode cX8_isLit 37 = .ok (.invokevirtual 79, 3) := by decide +kernel
theorem dX8_isLit_40 : decode cX8_isLit 40 = .ok (.if_icmp .ne 7, 3) := by decide +kernel
theorem dX8_isLit_43 : decode cX8_isLit 43 = .ok (.iconst 1, 1) := by decide +kernel
theorem dX8_isLit_44 : decode cX8_isLit 44 = .ok (.goto 4, 3) := by decide +kernel
theorem dX8_isLit_47 : decode cX8_isLit 47 = .ok (.iconst 0, 1) := by decide +kernel
theorem dX8_isLit_48 : decode cX8_isLit 48 = .ok (.ireturn, 1) := by decide +kernel
theorem dX8_rainAndDry_0 : decode cX8_rainAndDry 0 = .ok (.iconst 0, 1) := by decide +kernel
theorem dX8_rainAndDry_1 : decode cX8_rainAndDry 1 = .ok (.istore_n 3, 1) := by decide +kernel
theorem dX8_rainAndDry_2 : decode cX8_rainAndDry 2 = .ok (.iload_n 3, 1) := by decide +kernel
theorem dX8_rainAndDry_3 : decode cX8_rainAndDry 3 = .ok (.aload_n 0, 1) := by decide +kernel
theorem dX8_rainAndDry_4 : decode cX8_rainAndDry 4 = .ok (.getfield 9, 3) := by decide +kernel
theorem dX8_rainAndDry_7 : decode cX8_rainAndDry 7 = .ok (.if_icmp .ge 69, 3) := by decide +kernel
theorem dX8_rainAndDry_10 : decode cX8_rainAndDry 10 = .ok (.aload_n 0, 1) := by decide +kernel
theorem dX8_rainAndDry_11 : decode cX8_rainAndDry 11 = .ok (.iload_n 3, 1) := by decide +kernel
theorem dX8_rainAndDry_12 : decode cX8_rainAndDry 12 = .ok (.invokevirtual 79, 3) := by decide +kernel
theorem dX8_rainAndDry_15 : decode cX8_rainAndDry 15 = .ok (.istore 4, 2) := by decide +kernel
theorem dX8_rainAndDry_17 : decode cX8_rainAndDry 17 = .ok (.iload 4, 2) := by decide +kernel
theorem dX8_rainAndDry_19 : decode cX8_rainAndDry 19 = .ok (.ifCond .le 51, 3) := by decide +kernel
theorem dX8_rainAndDry_22 : decode cX8_rainAndDry 22 = .ok (.iload_n 3, 1) := by decide +kernel
theorem dX8_rainAndDry_23 : decode cX8_rainAndDry 23 = .ok (.aload_n 0, 1) := by decide +kernel
theorem dX8_rainAndDry_24 : decode cX8_rainAndDry 24 = .ok (.getfield 15, 3) := by decide +kernel
theorem dX8_rainAndDry_27 : decode cX8_rainAndDry 27 = .ok (.imul, 1) := by decide +kernel
theorem dX8_rainAndDry_28 : decode cX8_rainAndDry 28 = .ok (.iload 4, 2) := by decide +kernel
theorem dX8_rainAndDry_30 : decode cX8_rainAndDry 30 = .ok (.iadd, 1) := by decide +kernel
theorem dX8_rainAndDry_31 : decode cX8_rainAndDry 31 = .ok (.iconst 1, 1) := by decide +kernel
theorem dX8_rainAndDry_32 : decode cX8_rainAndDry 32 = .ok (.isub, 1) := by decide +kernel
theorem dX8_rainAndDry_33 : decode cX8_rainAndDry 33 = .ok (.istore 5, 2) := by decide +kernel
theorem dX8_rainAndDry_35 : decode cX8_rainAndDry 35 = .ok (.aload_n 0, 1) := by decide +kernel
theorem dX8_rainAndDry_36 : decode cX8_rainAndDry 36 = .ok (.iload 5, 2) := by decide +kernel
theorem dX8_rainAndDry_38 : decode cX8_rainAndDry 38 = .ok (.iload_n 2, 1) := by decide +kernel
theorem dX8_rainAndDry_39 : decode cX8_rainAndDry 39 = .ok (.invokevirtual 82, 3) := by decide +kernel
theorem dX8_rainAndDry_42 : decode cX8_rainAndDry 42 = .ok (.aload_n 0, 1) := by decide +kernel
theorem dX8_rainAndDry_43 : decode cX8_rainAndDry 43 = .ok (.getfield 32, 3) := by decide +kernel
theorem dX8_rainAndDry_46 : decode cX8_rainAndDry 46 = .ok (.iload 5, 2) := by decide +kernel
theorem dX8_rainAndDry_48 : decode cX8_rainAndDry 48 = .ok (.dup2, 1) := by decide +kernel
theorem dX8_rainAndDry_49 : decode cX8_rainAndDry 49 = .ok (.iaload, 1) := by decide +kernel
theorem dX8_rainAndDry_50 : decode cX8_rainAndDry 50 = .ok (.aload_n 0, 1) := by decide +kernel
theorem dX8_rainAndDry_51 : decode cX8_rainAndDry 51 = .ok (.aload_n 1, 1) := by decide +kernel
theorem dX8_rainAndDry_52 : decode cX8_rainAndDry 52 = .ok (.iconst 1, 1) := by decide +kernel
theorem dX8_rainAndDry_53 : decode cX8_rainAndDry 53 = .ok (.iload 5, 2) := by decide +kernel
theorem dX8_rainAndDry_55 : decode cX8_rainAndDry 55 = .ok (.invokevirtual 86, 3) := by decide +kernel
theorem dX8_rainAndDry_58 : decode cX8_rainAndDry 58 = .ok (.aload_n 0, 1) := by decide +kernel
theorem dX8_rainAndDry_59 : decode cX8_rainAndDry 59 = .ok (.getfield 32, 3) := by decide +kernel
theorem dX8_rainAndDry_62 : decode cX8_rainAndDry 62 = .ok (.iload 5, 2) := by decide +kernel
theorem dX8_rainAndDry_64 : decode cX8_rainAndDry 64 = .ok (.iaload, 1) := by decide +kernel
theorem dX8_rainAndDry_65 : decode cX8_rainAndDry 65 = .ok (.invokestatic 90, 3) := by decide +kernel
theorem dX8_rainAndDry_68 : decode cX8_rainAndDry 68 = .ok (.isub, 1) := by decide +kernel
theorem dX8_rainAndDry_69 : decode cX8_rainAndDry 69 = .ok (.iastore, 1) := by decide +kernel
theorem dX8_rainAndDry_70 : decode cX8_rainAndDry 70 = .ok (.iinc 3 1, 3) := by decide +kernel
theorem dX8_rainAndDry_73 : decode cX8_rainAndDry 73 = .ok (.goto (-71), 3) := by decide +kernel
theorem dX8_rainAndDry_76 : decode cX8_rainAndDry 76 = .ok (.return_, 1) := by decide +kernel
theorem dX8_sinkWater_0 : decode cX8_sinkWater 0 = .ok (.iconst 0, 1) := by decide +kernel
theorem dX8_sinkWater_1 : decode cX8_sinkWater 1 = .ok (.istore_n 2, 1) := by decide +kernel
theorem dX8_sinkWater_2 : decode cX8_sinkWater 2 = .ok (.iload_n 2, 1) := by decide +kernel
theorem dX8_sinkWater_3 : decode cX8_sinkWater 3 = .ok (.aload_n 0, 1) := by decide +kernel
theorem dX8_sinkWater_4 : decode cX8_sinkWater 4 = .ok (.getfield 9, 3) := by decide +kernel
theorem dX8_sinkWater_7 : decode cX8_sinkWater 7 = .ok (.if_icmp .ge 102, 3) := by decide +kernel
theorem dX8_sinkWater_10 : decode cX8_sinkWater 10 = .ok (.aload_n 0, 1) := by decide +kernel
theorem dX8_sinkWater_11 : decode cX8_sinkWater 11 = .ok (.iload_n 2, 1) := by decide +kernel
theorem dX8_sinkWater_12 : decode cX8_sinkWater 12 = .ok (.invokevirtual 79, 3) := by decide +kernel
theorem dX8_sinkWater_15 : decode cX8_sinkWater 15 = .ok (.istore_n 3, 1) := by decide +kernel
theorem dX8_sinkWater_16 : decode cX8_sinkWater 16 = .ok (.iconst 0, 1) := by decide +kernel
theorem dX8_sinkWater_17 : decode cX8_sinkWater 17 = .ok (.istore 4, 2) := by decide +kernel
theorem dX8_sinkWater_19 : decode cX8_sinkWater 19 = .ok (.iload 4, 2) := by decide +kernel
theorem dX8_sinkWater_21 : decode cX8_sinkWater 21 = .ok (.iload_n 3, 1) := by decide +kernel
theorem dX8_sinkWater_22 : decode cX8_sinkWater 22 = .ok (.if_icmp .ge 81, 3) := by decide +kernel
theorem dX8_sinkWater_25 : decode cX8_sinkWater 25 = .ok (.iload_n 2, 1) := by decide +kernel
theorem dX8_sinkWater_26 : decode cX8_sinkWater 26 = .ok (.aload_n 0, 1) := by decide +kernel
theorem dX8_sinkWater_27 : decode cX8_sinkWater 27 = .ok (.getfield 15, 3) := by decide +kernel
theorem dX8_sinkWater_30 : decode cX8_sinkWater 30 = .ok (.imul, 1) := by decide +kernel
theorem dX8_sinkWater_31 : decode cX8_sinkWater 31 = .ok (.iload 4, 2) := by decide +kernel
theorem dX8_sinkWater_33 : decode cX8_sinkWater 33 = .ok (.iadd, 1) := by decide +kernel
theorem dX8_sinkWater_34 : decode cX8_sinkWater 34 = .ok (.istore 5, 2) := by decide +kernel
theorem dX8_sinkWater_36 : decode cX8_sinkWater 36 = .ok (.aload_n 0, 1) := by decide +kernel
theorem dX8_sinkWater_37 : decode cX8_sinkWater 37 = .ok (.aload_n 1, 1) := by decide +kernel
theorem dX8_sinkWater_38 : decode cX8_sinkWater 38 = .ok (.iconst 0, 1) := by decide +kernel
theorem dX8_sinkWater_39 : decode cX8_sinkWater 39 = .ok (.iload 5, 2) := by decide +kernel
theorem dX8_sinkWater_41 : decode cX8_sinkWater 41 = .ok (.invokevirtual 86, 3) := by decide +kernel
theorem dX8_sinkWater_44 : decode cX8_sinkWater 44 = .ok (.aload_n 0, 1) := by decide +kernel
theorem dX8_sinkWater_45 : decode cX8_sinkWater 45 = .ok (.getfield 32, 3) := by decide +kernel
theorem dX8_sinkWater_48 : decode cX8_sinkWater 48 = .ok (.iload 5, 2) := by decide +kernel
theorem dX8_sinkWater_50 : decode cX8_sinkWater 50 = .ok (.iaload, 1) := by decide +kernel
theorem dX8_sinkWater_51 : decode cX8_sinkWater 51 = .ok (.invokestatic 90, 3) := by decide +kernel
theorem dX8_sinkWater_54 : decode cX8_sinkWater 54 = .ok (.istore 6, 2) := by decide +kernel
theorem dX8_sinkWater_56 : decode cX8_sinkWater 56 = .ok (.aload_n 0, 1) := by decide +kernel
theorem dX8_sinkWater_57 : decode cX8_sinkWater 57 = .ok (.getfield 32, 3) := by decide +kernel
theorem dX8_sinkWater_60 : decode cX8_sinkWater 60 = .ok (.iload 5, 2) := by decide +kernel
theorem dX8_sinkWater_62 : decode cX8_sinkWater 62 = .ok (.dup2, 1) := by decide +kernel
theorem dX8_sinkWater_63 : decode cX8_sinkWater 63 = .ok (.iaload, 1) := by decide +kernel
theorem dX8_sinkWater_64 : decode cX8_sinkWater 64 = .ok (.iload 6, 2) := by decide +kernel
theorem dX8_sinkWater_66 : decode cX8_sinkWater 66 = .ok (.isub, 1) := by decide +kernel
theorem dX8_sinkWater_67 : decode cX8_sinkWater 67 = .ok (.iastore, 1) := by decide +kernel
theorem dX8_sinkWater_68 : decode cX8_sinkWater 68 = .ok (.iload 4, 2) := by decide +kernel
theorem dX8_sinkWater_70 : decode cX8_sinkWater 70 = .ok (.ifCond .ne 17, 3) := by decide +kernel
theorem dX8_sinkWater_73 : decode cX8_sinkWater 73 = .ok (.aload_n 0, 1) := by decide +kernel
theorem dX8_sinkWater_74 : decode cX8_sinkWater 74 = .ok (.dup, 1) := by decide +kernel
theorem dX8_sinkWater_75 : decode cX8_sinkWater 75 = .ok (.getfield 50, 3) := by decide +kernel
theorem dX8_sinkWater_78 : decode cX8_sinkWater 78 = .ok (.iload 6, 2) := by decide +kernel
theorem dX8_sinkWater_80 : decode cX8_sinkWater 80 = .ok (.iadd, 1) := by decide +kernel
theorem dX8_sinkWater_81 : decode cX8_sinkWater 81 = .ok (.putfield 50, 3) := by decide +kernel
theorem dX8_sinkWater_84 : decode cX8_sinkWater 84 = .ok (.goto 13, 3) := by decide +kernel
theorem dX8_sinkWater_87 : decode cX8_sinkWater 87 = .ok (.aload_n 0, 1) := by decide +kernel
theorem dX8_sinkWater_88 : decode cX8_sinkWater 88 = .ok (.iload 5, 2) := by decide +kernel
theorem dX8_sinkWater_90 : decode cX8_sinkWater 90 = .ok (.iconst 1, 1) := by decide +kernel
theorem dX8_sinkWater_91 : decode cX8_sinkWater 91 = .ok (.isub, 1) := by decide +kernel
theorem dX8_sinkWater_92 : decode cX8_sinkWater 92 = .ok (.iload 6, 2) := by decide +kernel
theorem dX8_sinkWater_94 : decode cX8_sinkWater 94 = .ok (.invokevirtual 82, 3) := by decide +kernel
theorem dX8_sinkWater_97 : decode cX8_sinkWater 97 = .ok (.iinc 4 1, 3) := by decide +kernel
theorem dX8_sinkWater_100 : decode cX8_sinkWater 100 = .ok (.goto (-81), 3) := by decide +kernel
theorem dX8_sinkWater_103 : decode cX8_sinkWater 103 = .ok (.iinc 2 1, 3) := by decide +kernel
theorem dX8_sinkWater_106 : decode cX8_sinkWater 106 = .ok (.goto (-104), 3) := by decide +kernel
theorem dX8_sinkWater_109 : decode cX8_sinkWater 109 = .ok (.return_, 1) := by decide +kernel
theorem dX8_pour_0 : decode cX8_pour 0 = .ok (.aload_n 0, 1) := by decide +kernel
theorem dX8_pour_1 : decode cX8_pour 1 = .ok (.getfield 32, 3) := by decide +kernel
theorem dX8_pour_4 : decode cX8_pour 4 = .ok (.iload_n 1, 1) := by decide +kernel
theorem dX8_pour_5 : decode cX8_pour 5 = .ok (.iaload, 1) := by decide +kernel
theorem dX8_pour_6 : decode cX8_pour 6 = .ok (.iload_n 2, 1) := by decide +kernel
theorem dX8_pour_7 : decode cX8_pour 7 = .ok (.iadd, 1) := by decide +kernel
theorem dX8_pour_8 : decode cX8_pour 8 = .ok (.istore_n 3, 1) := by decide +kernel
theorem dX8_pour_9 : decode cX8_pour 9 = .ok (.aload_n 0, 1) := by decide +kernel
theorem dX8_pour_10 : decode cX8_pour 10 = .ok (.getfield 32, 3) := by decide +kernel
theorem dX8_pour_13 : decode cX8_pour 13 = .ok (.iload_n 1, 1) := by decide +kernel
theorem dX8_pour_14 : decode cX8_pour 14 = .ok (.iload_n 3, 1) := by decide +kernel
theorem dX8_pour_15 : decode cX8_pour 15 = .ok (.sipush 9999, 3) := by decide +kernel
theorem dX8_pour_18 : decode cX8_pour 18 = .ok (.invokestatic 41, 3) := by decide +kernel
theorem dX8_pour_21 : decode cX8_pour 21 = .ok (.iastore, 1) := by decide +kernel
theorem dX8_pour_22 : decode cX8_pour 22 = .ok (.aload_n 0, 1) := by decide +kernel
theorem dX8_pour_23 : decode cX8_pour 23 = .ok (.dup, 1) := by decide +kernel
theorem dX8_pour_24 : decode cX8_pour 24 = .ok (.getfield 50, 3) := by decide +kernel
theorem dX8_pour_27 : decode cX8_pour 27 = .ok (.iload_n 3, 1) := by decide +kernel
theorem dX8_pour_28 : decode cX8_pour 28 = .ok (.aload_n 0, 1) := by decide +kernel
theorem dX8_pour_29 : decode cX8_pour 29 = .ok (.getfield 32, 3) := by decide +kernel
theorem dX8_pour_32 : decode cX8_pour 32 = .ok (.iload_n 1, 1) := by decide +kernel
theorem dX8_pour_33 : decode cX8_pour 33 = .ok (.iaload, 1) := by decide +kernel
theorem dX8_pour_34 : decode cX8_pour 34 = .ok (.isub, 1) := by decide +kernel
theorem dX8_pour_35 : decode cX8_pour 35 = .ok (.iadd, 1) := by decide +kernel
theorem dX8_pour_36 : decode cX8_pour 36 = .ok (.putfield 50, 3) := by decide +kernel
theorem dX8_pour_39 : decode cX8_pour 39 = .ok (.return_, 1) := by decide +kernel
theorem dX8_shake_0 : decode cX8_shake 0 = .ok (.iconst 0, 1) := by decide +kernel
theorem dX8_shake_1 : decode cX8_shake 1 = .ok (.istore_n 2, 1) := by decide +kernel
theorem dX8_shake_2 : decode cX8_shake 2 = .ok (.iload_n 2, 1) := by decide +kernel
theorem dX8_shake_3 : decode cX8_shake 3 = .ok (.aload_n 0, 1) := by decide +kernel
theorem dX8_shake_4 : decode cX8_shake 4 = .ok (.getfield 28, 3) := by decide +kernel
theorem dX8_shake_7 : decode cX8_shake 7 = .ok (.arraylength, 1) := by decide +kernel
theorem dX8_shake_8 : decode cX8_shake 8 = .ok (.if_icmp .ge 38, 3) := by decide +kernel
theorem dX8_shake_11 : decode cX8_shake 11 = .ok (.aload_n 0, 1) := by decide +kernel
theorem dX8_shake_12 : decode cX8_shake 12 = .ok (.getfield 28, 3) := by decide +kernel
theorem dX8_shake_15 : decode cX8_shake 15 = .ok (.iload_n 2, 1) := by decide +kernel
theorem dX8_shake_16 : decode cX8_shake 16 = .ok (.iaload, 1) := by decide +kernel
theorem dX8_shake_17 : decode cX8_shake 17 = .ok (.ifCond .le 23, 3) := by decide +kernel
theorem dX8_shake_20 : decode cX8_shake 20 = .ok (.aload_n 0, 1) := by decide +kernel
theorem dX8_shake_21 : decode cX8_shake 21 = .ok (.getfield 35, 3) := by decide +kernel
theorem dX8_shake_24 : decode cX8_shake 24 = .ok (.iload_n 2, 1) := by decide +kernel
theorem dX8_shake_25 : decode cX8_shake 25 = .ok (.aload_n 0, 1) := by decide +kernel
theorem dX8_shake_26 : decode cX8_shake 26 = .ok (.getfield 35, 3) := by decide +kernel
theorem dX8_shake_29 : decode cX8_shake 29 = .ok (.iload_n 2, 1) := by decide +kernel
theorem dX8_shake_30 : decode cX8_shake 30 = .ok (.iaload, 1) := by decide +kernel
theorem dX8_shake_31 : decode cX8_shake 31 = .ok (.iload_n 1, 1) := by decide +kernel
theorem dX8_shake_32 : decode cX8_shake 32 = .ok (.iadd, 1) := by decide +kernel
theorem dX8_shake_33 : decode cX8_shake 33 = .ok (.sipush 9999, 3) := by decide +kernel
theorem dX8_shake_36 : decode cX8_shake 36 = .ok (.invokestatic 41, 3) := by decide +kernel
theorem dX8_shake_39 : decode cX8_shake 39 = .ok (.iastore, 1) := by decide +kernel
theorem dX8_shake_40 : decode cX8_shake 40 = .ok (.iinc 2 1, 3) := by decide +kernel
theorem dX8_shake_43 : decode cX8_shake 43 = .ok (.goto (-41), 3) := by decide +kernel
theorem dX8_shake_46 : decode cX8_shake 46 = .ok (.return_, 1) := by decide +kernel
theorem dX8_turnToSoup_0 : decode cX8_turnToSoup 0 = .ok (.iconst 0, 1) := by decide +kernel
theorem dX8_turnToSoup_1 : decode cX8_turnToSoup 1 = .ok (.istore_n 2, 1) := by decide +kernel
theorem dX8_turnToSoup_2 : decode cX8_turnToSoup 2 = .ok (.iload_n 2, 1) := by decide +kernel
theorem dX8_turnToSoup_3 : decode cX8_turnToSoup 3 = .ok (.aload_n 0, 1) := by decide +kernel
theorem dX8_turnToSoup_4 : decode cX8_turnToSoup 4 = .ok (.getfield 28, 3) := by decide +kernel
theorem dX8_turnToSoup_7 : decode cX8_turnToSoup 7 = .ok (.arraylength, 1) := by decide +kernel
theorem dX8_turnToSoup_8 : decode cX8_turnToSoup 8 = .ok (.if_icmp .ge 30, 3) := by decide +kernel
theorem dX8_turnToSoup_11 : decode cX8_turnToSoup 11 = .ok (.aload_n 0, 1) := by decide +kernel
theorem dX8_turnToSoup_12 : decode cX8_turnToSoup 12 = .ok (.getfield 38, 3) := by decide +kernel
theorem dX8_turnToSoup_15 : decode cX8_turnToSoup 15 = .ok (.iload_n 2, 1) := by decide +kernel
theorem dX8_turnToSoup_16 : decode cX8_turnToSoup 16 = .ok (.aload_n 0, 1) := by decide +kernel
theorem dX8_turnToSoup_17 : decode cX8_turnToSoup 17 = .ok (.aload_n 1, 1) := by decide +kernel
theorem dX8_turnToSoup_18 : decode cX8_turnToSoup 18 = .ok (.iconst 2, 1) := by decide +kernel
theorem dX8_turnToSoup_19 : decode cX8_turnToSoup 19 = .ok (.iload_n 2, 1) := by decide +kernel
theorem dX8_turnToSoup_20 : decode cX8_turnToSoup 20 = .ok (.invokevirtual 86, 3) := by decide +kernel
theorem dX8_turnToSoup_23 : decode cX8_turnToSoup 23 = .ok (.ifCond .le 7, 3) := by decide +kernel
theorem dX8_turnToSoup_26 : decode cX8_turnToSoup 26 = .ok (.iconst 1, 1) := by decide +kernel
theorem dX8_turnToSoup_27 : decode cX8_turnToSoup 27 = .ok (.goto 4, 3) := by decide +kernel
theorem dX8_turnToSoup_30 : decode cX8_turnToSoup 30 = .ok (.iconst 0, 1) := by decide +kernel
theorem dX8_turnToSoup_31 : decode cX8_turnToSoup 31 = .ok (.iastore, 1) := by decide +kernel
theorem dX8_turnToSoup_32 : decode cX8_turnToSoup 32 = .ok (.iinc 2 1, 3) := by decide +kernel
theorem dX8_turnToSoup_35 : decode cX8_turnToSoup 35 = .ok (.goto (-33), 3) := by decide +kernel
theorem dX8_turnToSoup_38 : decode cX8_turnToSoup 38 = .ok (.return_, 1) := by decide +kernel
theorem dX8_topIsSoup_0 : decode cX8_topIsSoup 0 = .ok (.aload_n 0, 1) := by decide +kernel
theorem dX8_topIsSoup_1 : decode cX8_topIsSoup 1 = .ok (.iload_n 1, 1) := by decide +kernel
theorem dX8_topIsSoup_2 : decode cX8_topIsSoup 2 = .ok (.invokevirtual 79, 3) := by decide +kernel
theorem dX8_topIsSoup_5 : decode cX8_topIsSoup 5 = .ok (.istore_n 2, 1) := by decide +kernel
theorem dX8_topIsSoup_6 : decode cX8_topIsSoup 6 = .ok (.iload_n 2, 1) := by decide +kernel
theorem dX8_topIsSoup_7 : decode cX8_topIsSoup 7 = .ok (.ifCond .le 26, 3) := by decide +kernel
theorem dX8_topIsSoup_10 : decode cX8_topIsSoup 10 = .ok (.aload_n 0, 1) := by decide +kernel
theorem dX8_topIsSoup_11 : decode cX8_topIsSoup 11 = .ok (.getfield 38, 3) := by decide +kernel
theorem dX8_topIsSoup_14 : decode cX8_topIsSoup 14 = .ok (.iload_n 1, 1) := by decide +kernel
theorem dX8_topIsSoup_15 : decode cX8_topIsSoup 15 = .ok (.aload_n 0, 1) := by decide +kernel
theorem dX8_topIsSoup_16 : decode cX8_topIsSoup 16 = .ok (.getfield 15, 3) := by decide +kernel
theorem dX8_topIsSoup_19 : decode cX8_topIsSoup 19 = .ok (.imul, 1) := by decide +kernel
theorem dX8_topIsSoup_20 : decode cX8_topIsSoup 20 = .ok (.iload_n 2, 1) := by decide +kernel
theorem dX8_topIsSoup_21 : decode cX8_topIsSoup 21 = .ok (.iadd, 1) := by decide +kernel
theorem dX8_topIsSoup_22 : decode cX8_topIsSoup 22 = .ok (.iconst 1, 1) := by decide +kernel
theorem dX8_topIsSoup_23 : decode cX8_topIsSoup 23 = .ok (.isub, 1) := by decide +kernel
theorem dX8_topIsSoup_24 : decode cX8_topIsSoup 24 = .ok (.iaload, 1) := by decide +kernel
theorem dX8_topIsSoup_25 : decode cX8_topIsSoup 25 = .ok (.iconst 1, 1) := by decide +kernel
theorem dX8_topIsSoup_26 : decode cX8_topIsSoup 26 = .ok (.if_icmp .ne 7, 3) := by decide +kernel
theorem dX8_topIsSoup_29 : decode cX8_topIsSoup 29 = .ok (.iconst 1, 1) := by decide +kernel
theorem dX8_topIsSoup_30 : decode cX8_topIsSoup 30 = .ok (.goto 4, 3) := by decide +kernel
theorem dX8_topIsSoup_33 : decode cX8_topIsSoup 33 = .ok (.iconst 0, 1) := by decide +kernel
theorem dX8_topIsSoup_34 : decode cX8_topIsSoup 34 = .ok (.ireturn, 1) := by decide +kernel
theorem dX8_moveTop_0 : decode cX8_moveTop 0 = .ok (.aload_n 0, 1) := by decide +kernel
theorem dX8_moveTop_1 : decode cX8_moveTop 1 = .ok (.iload_n 1, 1) := by decide +kernel
theorem dX8_moveTop_2 : decode cX8_moveTop 2 = .ok (.invokevirtual 79, 3) := by decide +kernel
theorem dX8_moveTop_5 : decode cX8_moveTop 5 = .ok (.istore 4, 2) := by decide +kernel
theorem dX8_moveTop_7 : decode cX8_moveTop 7 = .ok (.aload_n 2, 1) := by decide +kernel
theorem dX8_moveTop_8 : decode cX8_moveTop 8 = .ok (.iload_n 3, 1) := by decide +kernel
theorem dX8_moveTop_9 : decode cX8_moveTop 9 = .ok (.invokevirtual 79, 3) := by decide +kernel
theorem dX8_moveTop_12 : decode cX8_moveTop 12 = .ok (.istore 5, 2) := by decide +kernel
theorem dX8_moveTop_14 : decode cX8_moveTop 14 = .ok (.iload 4, 2) := by decide +kernel
theorem dX8_moveTop_16 : decode cX8_moveTop 16 = .ok (.ifCond .eq 23, 3) := by decide +kernel
theorem dX8_moveTop_19 : decode cX8_moveTop 19 = .ok (.iload_n 3, 1) := by decide +kernel
theorem dX8_moveTop_20 : decode cX8_moveTop 20 = .ok (.aload_n 2, 1) := by decide +kernel
theorem dX8_moveTop_21 : decode cX8_moveTop 21 = .ok (.getfield 9, 3) := by decide +kernel
theorem dX8_moveTop_24 : decode cX8_moveTop 24 = .ok (.invokestatic 53, 3) := by decide +kernel
theorem dX8_moveTop_27 : decode cX8_moveTop 27 = .ok (.ifCond .eq 12, 3) := by decide +kernel
theorem dX8_moveTop_30 : decode cX8_moveTop 30 = .ok (.iload 5, 2) := by decide +kernel
theorem dX8_moveTop_32 : decode cX8_moveTop 32 = .ok (.aload_n 2, 1) := by decide +kernel
theorem dX8_moveTop_33 : decode cX8_moveTop 33 = .ok (.getfield 15, 3) := by decide +kernel
theorem dX8_moveTop_36 : decode cX8_moveTop 36 = .ok (.if_icmp .lt 5, 3) := by decide +kernel
theorem dX8_moveTop_39 : decode cX8_moveTop 39 = .ok (.iconst 0, 1) := by decide +kernel
theorem dX8_moveTop_40 : decode cX8_moveTop 40 = .ok (.ireturn, 1) := by decide +kernel
theorem dX8_moveTop_41 : decode cX8_moveTop 41 = .ok (.iload_n 1, 1) := by decide +kernel
theorem dX8_moveTop_42 : decode cX8_moveTop 42 = .ok (.aload_n 0, 1) := by decide +kernel
theorem dX8_moveTop_43 : decode cX8_moveTop 43 = .ok (.getfield 15, 3) := by decide +kernel
theorem dX8_moveTop_46 : decode cX8_moveTop 46 = .ok (.imul, 1) := by decide +kernel
theorem dX8_moveTop_47 : decode cX8_moveTop 47 = .ok (.iload 4, 2) := by decide +kernel
theorem dX8_moveTop_49 : decode cX8_moveTop 49 = .ok (.iadd, 1) := by decide +kernel
theorem dX8_moveTop_50 : decode cX8_moveTop 50 = .ok (.iconst 1, 1) := by decide +kernel
theorem dX8_moveTop_51 : decode cX8_moveTop 51 = .ok (.isub, 1) := by decide +kernel
theorem dX8_moveTop_52 : decode cX8_moveTop 52 = .ok (.istore 6, 2) := by decide +kernel
theorem dX8_moveTop_54 : decode cX8_moveTop 54 = .ok (.iload_n 3, 1) := by decide +kernel
theorem dX8_moveTop_55 : decode cX8_moveTop 55 = .ok (.aload_n 2, 1) := by decide +kernel
theorem dX8_moveTop_56 : decode cX8_moveTop 56 = .ok (.getfield 15, 3) := by decide +kernel
theorem dX8_moveTop_59 : decode cX8_moveTop 59 = .ok (.imul, 1) := by decide +kernel
theorem dX8_moveTop_60 : decode cX8_moveTop 60 = .ok (.iload 5, 2) := by decide +kernel
theorem dX8_moveTop_62 : decode cX8_moveTop 62 = .ok (.iadd, 1) := by decide +kernel
theorem dX8_moveTop_63 : decode cX8_moveTop 63 = .ok (.istore 7, 2) := by decide +kernel
theorem dX8_moveTop_65 : decode cX8_moveTop 65 = .ok (.aload_n 2, 1) := by decide +kernel
theorem dX8_moveTop_66 : decode cX8_moveTop 66 = .ok (.getfield 28, 3) := by decide +kernel
theorem dX8_moveTop_69 : decode cX8_moveTop 69 = .ok (.iload 7, 2) := by decide +kernel
theorem dX8_moveTop_71 : decode cX8_moveTop 71 = .ok (.aload_n 0, 1) := by decide +kernel
theorem dX8_moveTop_72 : decode cX8_moveTop 72 = .ok (.getfield 28, 3) := by decide +kernel
theorem dX8_moveTop_75 : decode cX8_moveTop 75 = .ok (.iload 6, 2) := by decide +kernel
theorem dX8_moveTop_77 : decode cX8_moveTop 77 = .ok (.iaload, 1) := by decide +kernel
theorem dX8_moveTop_78 : decode cX8_moveTop 78 = .ok (.iastore, 1) := by decide +kernel
theorem dX8_moveTop_79 : decode cX8_moveTop 79 = .ok (.aload_n 2, 1) := by decide +kernel
theorem dX8_moveTop_80 : decode cX8_moveTop 80 = .ok (.getfield 32, 3) := by decide +kernel
theorem dX8_moveTop_83 : decode cX8_moveTop 83 = .ok (.iload 7, 2) := by decide +kernel
theorem dX8_moveTop_85 : decode cX8_moveTop 85 = .ok (.aload_n 0, 1) := by decide +kernel
theorem dX8_moveTop_86 : decode cX8_moveTop 86 = .ok (.getfield 32, 3) := by decide +kernel
theorem dX8_moveTop_89 : decode cX8_moveTop 89 = .ok (.iload 6, 2) := by decide +kernel
theorem dX8_moveTop_91 : decode cX8_moveTop 91 = .ok (.iaload, 1) := by decide +kernel
theorem dX8_moveTop_92 : decode cX8_moveTop 92 = .ok (.iastore, 1) := by decide +kernel
theorem dX8_moveTop_93 : decode cX8_moveTop 93 = .ok (.aload_n 2, 1) := by decide +kernel
theorem dX8_moveTop_94 : decode cX8_moveTop 94 = .ok (.getfield 35, 3) := by decide +kernel
theorem dX8_moveTop_97 : decode cX8_moveTop 97 = .ok (.iload 7, 2) := by decide +kernel
theorem dX8_moveTop_99 : decode cX8_moveTop 99 = .ok (.aload_n 0, 1) := by decide +kernel
theorem dX8_moveTop_100 : decode cX8_moveTop 100 = .ok (.getfield 35, 3) := by decide +kernel
theorem dX8_moveTop_103 : decode cX8_moveTop 103 = .ok (.iload 6, 2) := by decide +kernel
theorem dX8_moveTop_105 : decode cX8_moveTop 105 = .ok (.iaload, 1) := by decide +kernel
theorem dX8_moveTop_106 : decode cX8_moveTop 106 = .ok (.iastore, 1) := by decide +kernel
theorem dX8_moveTop_107 : decode cX8_moveTop 107 = .ok (.aload_n 2, 1) := by decide +kernel
theorem dX8_moveTop_108 : decode cX8_moveTop 108 = .ok (.getfield 38, 3) := by decide +kernel
theorem dX8_moveTop_111 : decode cX8_moveTop 111 = .ok (.iload 7, 2) := by decide +kernel
theorem dX8_moveTop_113 : decode cX8_moveTop 113 = .ok (.aload_n 0, 1) := by decide +kernel
theorem dX8_moveTop_114 : decode cX8_moveTop 114 = .ok (.getfield 38, 3) := by decide +kernel
theorem dX8_moveTop_117 : decode cX8_moveTop 117 = .ok (.iload 6, 2) := by decide +kernel
theorem dX8_moveTop_119 : decode cX8_moveTop 119 = .ok (.iaload, 1) := by decide +kernel
theorem dX8_moveTop_120 : decode cX8_moveTop 120 = .ok (.iastore, 1) := by decide +kernel
theorem dX8_moveTop_121 : decode cX8_moveTop 121 = .ok (.aload_n 0, 1) := by decide +kernel
theorem dX8_moveTop_122 : decode cX8_moveTop 122 = .ok (.getfield 28, 3) := by decide +kernel
theorem dX8_moveTop_125 : decode cX8_moveTop 125 = .ok (.iload 6, 2) := by decide +kernel
theorem dX8_moveTop_127 : decode cX8_moveTop 127 = .ok (.iconst 0, 1) := by decide +kernel
theorem dX8_moveTop_128 : decode cX8_moveTop 128 = .ok (.iastore, 1) := by decide +kernel
theorem dX8_moveTop_129 : decode cX8_moveTop 129 = .ok (.aload_n 0, 1) := by decide +kernel
theorem dX8_moveTop_130 : decode cX8_moveTop 130 = .ok (.getfield 32, 3) := by decide +kernel
theorem dX8_moveTop_133 : decode cX8_moveTop 133 = .ok (.iload 6, 2) := by decide +kernel
theorem dX8_moveTop_135 : decode cX8_moveTop 135 = .ok (.iconst 0, 1) := by decide +kernel
theorem dX8_moveTop_136 : decode cX8_moveTop 136 = .ok (.iastore, 1) := by decide +kernel
theorem dX8_moveTop_137 : decode cX8_moveTop 137 = .ok (.aload_n 0, 1) := by decide +kernel
theorem dX8_moveTop_138 : decode cX8_moveTop 138 = .ok (.getfield 35, 3) := by decide +kernel
theorem dX8_moveTop_141 : decode cX8_moveTop 141 = .ok (.iload 6, 2) := by decide +kernel
theorem dX8_moveTop_143 : decode cX8_moveTop 143 = .ok (.iconst 0, 1) := by decide +kernel
theorem dX8_moveTop_144 : decode cX8_moveTop 144 = .ok (.iastore, 1) := by decide +kernel
theorem dX8_moveTop_145 : decode cX8_moveTop 145 = .ok (.aload_n 0, 1) := by decide +kernel
theorem dX8_moveTop_146 : decode cX8_moveTop 146 = .ok (.getfield 38, 3) := by decide +kernel
theorem dX8_moveTop_149 : decode cX8_moveTop 149 = .ok (.iload 6, 2) := by decide +kernel
theorem dX8_moveTop_151 : decode cX8_moveTop 151 = .ok (.iconst 0, 1) := by decide +kernel
theorem dX8_moveTop_152 : decode cX8_moveTop 152 = .ok (.iastore, 1) := by decide +kernel
theorem dX8_moveTop_153 : decode cX8_moveTop 153 = .ok (.iconst 1, 1) := by decide +kernel
theorem dX8_moveTop_154 : decode cX8_moveTop 154 = .ok (.ireturn, 1) := by decide +kernel
theorem dX9_init_0 : decode cX9_init 0 = .ok (.aload_n 0, 1) := by decide +kernel
theorem dX9_init_1 : decode cX9_init 1 = .ok (.invokespecial 3, 3) := by decide +kernel
theorem dX9_init_4 : decode cX9_init 4 = .ok (.aload_n 0, 1) := by decide +kernel
theorem dX9_init_5 : decode cX9_init 5 = .ok (.sipush 600, 3) := by decide +kernel
theorem dX9_init_8 : decode cX9_init 8 = .ok (.newarray .int, 2) := by decide +kernel
theorem dX9_init_10 : decode cX9_init 10 = .ok (.putfield 9, 3) := by decide +kernel
theorem dX9_init_13 : decode cX9_init 13 = .ok (.aload_n 0, 1) := by decide +kernel
theorem dX9_init_14 : decode cX9_init 14 = .ok (.bipush 16, 2) := by decide +kernel
theorem dX9_init_16 : decode cX9_init 16 = .ok (.newarray .int, 2) := by decide +kernel
theorem dX9_init_18 : decode cX9_init 18 = .ok (.putfield 15, 3) := by decide +kernel
theorem dX9_init_21 : decode cX9_init 21 = .ok (.aload_n 0, 1) := by decide +kernel
theorem dX9_init_22 : decode cX9_init 22 = .ok (.bipush 16, 2) := by decide +kernel
theorem dX9_init_24 : decode cX9_init 24 = .ok (.newarray .int, 2) := by decide +kernel
theorem dX9_init_26 : decode cX9_init 26 = .ok (.putfield 18, 3) := by decide +kernel
theorem dX9_init_29 : decode cX9_init 29 = .ok (.aload_n 0, 1) := by decide +kernel
theorem dX9_init_30 : decode cX9_init 30 = .ok (.bipush 16, 2) := by decide +kernel
theorem dX9_init_32 : decode cX9_init 32 = .ok (.newarray .int, 2) := by decide +kernel
theorem dX9_init_34 : decode cX9_init 34 = .ok (.putfield 21, 3) := by decide +kernel
theorem dX9_init_37 : decode cX9_init 37 = .ok (.aload_n 0, 1) := by decide +kernel
theorem dX9_init_38 : decode cX9_init 38 = .ok (.bipush 16, 2) := by decide +kernel
theorem dX9_init_40 : decode cX9_init 40 = .ok (.newarray .int, 2) := by decide +kernel
theorem dX9_init_42 : decode cX9_init 42 = .ok (.putfield 24, 3) := by decide +kernel
theorem dX9_init_45 : decode cX9_init 45 = .ok (.aload_n 0, 1) := by decide +kernel
theorem dX9_init_46 : decode cX9_init 46 = .ok (.bipush 32, 2) := by decide +kernel
theorem dX9_init_48 : decode cX9_init 48 = .ok (.newarray .int, 2) := by decide +kernel
theorem dX9_init_50 : decode cX9_init 50 = .ok (.putfield 27, 3) := by decide +kernel
theorem dX9_init_53 : decode cX9_init 53 = .ok (.return_, 1) := by decide +kernel
theorem dX9_clear_0 : decode cX9_clear 0 = .ok (.aload_n 0, 1) := by decide +kernel
theorem dX9_clear_1 : decode cX9_clear 1 = .ok (.iconst 0, 1) := by decide +kernel
theorem dX9_clear_2 : decode cX9_clear 2 = .ok (.putfield 30, 3) := by decide +kernel
theorem dX9_clear_5 : decode cX9_clear 5 = .ok (.aload_n 0, 1) := by decide +kernel
theorem dX9_clear_6 : decode cX9_clear 6 = .ok (.iconst 0, 1) := by decide +kernel
theorem dX9_clear_7 : decode cX9_clear 7 = .ok (.putfield 34, 3) := by decide +kernel
theorem dX9_clear_10 : decode cX9_clear 10 = .ok (.return_, 1) := by decide +kernel
theorem dX9_beginLine_0 : decode cX9_beginLine 0 = .ok (.aload_n 0, 1) := by decide +kernel
theorem dX9_beginLine_1 : decode cX9_beginLine 1 = .ok (.getfield 30, 3) := by decide +kernel
theorem dX9_beginLine_4 : decode cX9_beginLine 4 = .ok (.bipush 16, 2) := by decide +kernel
theorem dX9_beginLine_6 : decode cX9_beginLine 6 = .ok (.if_icmp .ge 23, 3) := by decide +kernel
theorem dX9_beginLine_9 : decode cX9_beginLine 9 = .ok (.aload_n 0, 1) := by decide +kernel
theorem dX9_beginLine_10 : decode cX9_beginLine 10 = .ok (.getfield 15, 3) := by decide +kernel
theorem dX9_beginLine_13 : decode cX9_beginLine 13 = .ok (.aload_n 0, 1) := by decide +kernel
theorem dX9_beginLine_14 : decode cX9_beginLine 14 = .ok (.getfield 30, 3) := by decide +kernel
theorem dX9_beginLine_17 : decode cX9_beginLine 17 = .ok (.iload_n 1, 1) := by decide +kernel
theorem dX9_beginLine_18 : decode cX9_beginLine 18 = .ok (.iastore, 1) := by decide +kernel
theorem dX9_beginLine_19 : decode cX9_beginLine 19 = .ok (.aload_n 0, 1) := by decide +kernel
theorem dX9_beginLine_20 : decode cX9_beginLine 20 = .ok (.getfield 18, 3) := by decide +kernel
theorem dX9_beginLine_23 : decode cX9_beginLine 23 = .ok (.aload_n 0, 1) := by decide +kernel
theorem dX9_beginLine_24 : decode cX9_beginLine 24 = .ok (.getfield 30, 3) := by decide +kernel
theorem dX9_beginLine_27 : decode cX9_beginLine 27 = .ok (.iload_n 2, 1) := by decide +kernel
theorem dX9_beginLine_28 : decode cX9_beginLine 28 = .ok (.iastore, 1) := by decide +kernel
theorem dX9_beginLine_29 : decode cX9_beginLine 29 = .ok (.return_, 1) := by decide +kernel
theorem dX9_beginWhen_0 : decode cX9_beginWhen 0 = .ok (.aload_n 0, 1) := by decide +kernel
theorem dX9_beginWhen_1 : decode cX9_beginWhen 1 = .ok (.getfield 30, 3) := by decide +kernel
theorem dX9_beginWhen_4 : decode cX9_beginWhen 4 = .ok (.bipush 16, 2) := by decide +kernel
theorem dX9_beginWhen_6 : decode cX9_beginWhen 6 = .ok (.if_icmp .ge 16, 3) := by decide +kernel
theorem dX9_beginWhen_9 : decode cX9_beginWhen 9 = .ok (.aload_n 0, 1) := by decide +kernel
theorem dX9_beginWhen_10 : decode cX9_beginWhen 10 = .ok (.getfield 21, 3) := by decide +kernel
theorem dX9_beginWhen_13 : decode cX9_beginWhen 13 = .ok (.aload_n 0, 1) := by decide +kernel
theorem dX9_beginWhen_14 : decode cX9_beginWhen 14 = .ok (.getfield 30, 3) := by decide +kernel
theorem dX9_beginWhen_17 : decode cX9_beginWhen 17 = .ok (.aload_n 0, 1) := by decide +kernel
theorem dX9_beginWhen_18 : decode cX9_beginWhen 18 = .ok (.getfield 34, 3) := by decide +kernel
theorem dX9_beginWhen_21 : decode cX9_beginWhen 21 = .ok (.iastore, 1) := by decide +kernel
theorem dX9_beginWhen_22 : decode cX9_beginWhen 22 = .ok (.return_, 1) := by decide +kernel
theorem dX9_endLine_0 : decode cX9_endLine 0 = .ok (.aload_n 0, 1) := by decide +kernel
theorem dX9_endLine_1 : decode cX9_endLine 1 = .ok (.getfield 30, 3) := by decide +kernel
theorem dX9_endLine_4 : decode cX9_endLine 4 = .ok (.bipush 16, 2) := by decide +kernel
theorem dX9_endLine_6 : decode cX9_endLine 6 = .ok (.if_icmp .ge 26, 3) := by decide +kernel
theorem dX9_endLine_9 : decode cX9_endLine 9 = .ok (.aload_n 0, 1) := by decide +kernel
theorem dX9_endLine_10 : decode cX9_endLine 10 = .ok (.getfield 24, 3) := by decide +kernel
theorem dX9_endLine_13 : decode cX9_endLine 13 = .ok (.aload_n 0, 1) := by decide +kernel
theorem dX9_endLine_14 : decode cX9_endLine 14 = .ok (.getfield 30, 3) := by decide +kernel
theorem dX9_endLine_17 : decode cX9_endLine 17 = .ok (.aload_n 0, 1) := by decide +kernel
theorem dX9_endLine_18 : decode cX9_endLine 18 = .ok (.getfield 34, 3) := by decide +kernel
theorem dX9_endLine_21 : decode cX9_endLine 21 = .ok (.iastore, 1) := by decide +kernel
theorem dX9_endLine_22 : decode cX9_endLine 22 = .ok (.aload_n 0, 1) := by decide +kernel
theorem dX9_endLine_23 : decode cX9_endLine 23 = .ok (.dup, 1) := by decide +kernel
theorem dX9_endLine_24 : decode cX9_endLine 24 = .ok (.getfield 30, 3) := by decide +kernel
theorem dX9_endLine_27 : decode cX9_endLine 27 = .ok (.iconst 1, 1) := by decide +kernel
theorem dX9_endLine_28 : decode cX9_endLine 28 = .ok (.iadd, 1) := by decide +kernel
theorem dX9_endLine_29 : decode cX9_endLine 29 = .ok (.putfield 30, 3) := by decide +kernel
theorem dX9_endLine_32 : decode cX9_endLine 32 = .ok (.return_, 1) := by decide +kernel
theorem dX9_add_0 : decode cX9_add 0 = .ok (.aload_n 0, 1) := by decide +kernel
theorem dX9_add_1 : decode cX9_add 1 = .ok (.getfield 34, 3) := by decide +kernel
theorem dX9_add_4 : decode cX9_add 4 = .ok (.sipush 600, 3) := by decide +kernel
theorem dX9_add_7 : decode cX9_add 7 = .ok (.if_icmp .ge 29, 3) := by decide +kernel
theorem dX9_add_10 : decode cX9_add 10 = .ok (.aload_n 0, 1) := by decide +kernel
theorem dX9_add_11 : decode cX9_add 11 = .ok (.getfield 9, 3) := by decide +kernel
theorem dX9_add_14 : decode cX9_add 14 = .ok (.aload_n 0, 1) := by decide +kernel
theorem dX9_add_15 : decode cX9_add 15 = .ok (.getfield 34, 3) := by decide +kernel
theorem dX9_add_18 : decode cX9_add 18 = .ok (.iload_n 1, 1) := by decide +kernel
theorem dX9_add_19 : decode cX9_add 19 = .ok (.sipush 16384, 3) := by decide +kernel
theorem dX9_add_22 : decode cX9_add 22 = .ok (.imul, 1) := by decide +kernel
theorem dX9_add_23 : decode cX9_add 23 = .ok (.iload_n 2, 1) := by decide +kernel
theorem dX9_add_24 : decode cX9_add 24 = .ok (.iadd, 1) := by decide +kernel
theorem dX9_add_25 : decode cX9_add 25 = .ok (.iastore, 1) := by decide +kernel
theorem dX9_add_26 : decode cX9_add 26 = .ok (.aload_n 0, 1) := by decide +kernel
theorem dX9_add_27 : decode cX9_add 27 = .ok (.dup, 1) := by decide +kernel
theorem dX9_add_28 : decode cX9_add 28 = .ok (.getfield 34, 3) := by decide +kernel
theorem dX9_add_31 : decode cX9_add 31 = .ok (.iconst 1, 1) := by decide +kernel
theorem dX9_add_32 : decode cX9_add 32 = .ok (.iadd, 1) := by decide +kernel
theorem dX9_add_33 : decode cX9_add 33 = .ok (.putfield 34, 3) := by decide +kernel
theorem dX9_add_36 : decode cX9_add 36 = .ok (.return_, 1) := by decide +kernel
theorem dX9_isOf_0 : decode cX9_isOf 0 = .ok (.iload_n 1, 1) := by decide +kernel
theorem dX9_isOf_1 : decode cX9_isOf 1 = .ok (.aload_n 0, 1) := by decide +kernel
theorem dX9_isOf_2 : decode cX9_isOf 2 = .ok (.getfield 30, 3) := by decide +kernel
theorem dX9_isOf_5 : decode cX9_isOf 5 = .ok (.invokestatic 37, 3) := by decide +kernel
theorem dX9_isOf_8 : decode cX9_isOf 8 = .ok (.ifCond .eq 17, 3) := by decide +kernel
theorem dX9_isOf_11 : decode cX9_isOf 11 = .ok (.aload_n 0, 1) := by decide +kernel
theorem dX9_isOf_12 : decode cX9_isOf 12 = .ok (.getfield 15, 3) := by decide +kernel
theorem dX9_isOf_15 : decode cX9_isOf 15 = .ok (.iload_n 1, 1) := by decide +kernel
theorem dX9_isOf_16 : decode cX9_isOf 16 = .ok (.iaload, 1) := by decide +kernel
theorem dX9_isOf_17 : decode cX9_isOf 17 = .ok (.iload_n 2, 1) := by decide +kernel
theorem dX9_isOf_18 : decode cX9_isOf 18 = .ok (.if_icmp .ne 7, 3) := by decide +kernel
theorem dX9_isOf_21 : decode cX9_isOf 21 = .ok (.iconst 1, 1) := by decide +kernel
theorem dX9_isOf_22 : decode cX9_isOf 22 = .ok (.goto 4, 3) := by decide +kernel
theorem dX9_isOf_25 : decode cX9_isOf 25 = .ok (.iconst 0, 1) := by decide +kernel
theorem dX9_isOf_26 : decode cX9_isOf 26 = .ok (.ireturn, 1) := by decide +kernel
theorem dX9_isFor_0 : decode cX9_isFor 0 = .ok (.iload_n 1, 1) := by decide +kernel
theorem dX9_isFor_1 : decode cX9_isFor 1 = .ok (.aload_n 0, 1) := by decide +kernel
theorem dX9_isFor_2 : decode cX9_isFor 2 = .ok (.getfield 30, 3) := by decide +kernel
theorem dX9_isFor_5 : decode cX9_isFor 5 = .ok (.invokestatic 37, 3) := by decide +kernel
theorem dX9_isFor_8 : decode cX9_isFor 8 = .ok (.ifCond .eq 22, 3) := by decide +kernel
theorem dX9_isFor_11 : decode cX9_isFor 11 = .ok (.iload_n 2, 1) := by decide +kernel
theorem dX9_isFor_12 : decode cX9_isFor 12 = .ok (.iconst (-1), 1) := by decide +kernel
theorem dX9_isFor_13 : decode cX9_isFor 13 = .ok (.if_icmp .eq 13, 3) := by decide +kernel
theorem dX9_isFor_16 : decode cX9_isFor 16 = .ok (.aload_n 0, 1) := by decide +kernel
theorem dX9_isFor_17 : decode cX9_isFor 17 = .ok (.getfield 18, 3) := by decide +kernel
theorem dX9_isFor_20 : decode cX9_isFor 20 = .ok (.iload_n 1, 1) := by decide +kernel
theorem dX9_isFor_21 : decode cX9_isFor 21 = .ok (.iaload, 1) := by decide +kernel
theorem dX9_isFor_22 : decode cX9_isFor 22 = .ok (.iload_n 2, 1) := by decide +kernel
theorem dX9_isFor_23 : decode cX9_isFor 23 = .ok (.if_icmp .ne 7, 3) := by decide +kernel
theorem dX9_isFor_26 : decode cX9_isFor 26 = .ok (.iconst 1, 1) := by decide +kernel
theorem dX9_isFor_27 : decode cX9_isFor 27 = .ok (.goto 4, 3) := by decide +kernel
theorem dX9_isFor_30 : decode cX9_isFor 30 = .ok (.iconst 0, 1) := by decide +kernel
theorem dX9_isFor_31 : decode cX9_isFor 31 = .ok (.ireturn, 1) := by decide +kernel
theorem dX9_isSo_0 : decode cX9_isSo 0 = .ok (.iload_n 1, 1) := by decide +kernel
theorem dX9_isSo_1 : decode cX9_isSo 1 = .ok (.aload_n 0, 1) := by decide +kernel
theorem dX9_isSo_2 : decode cX9_isSo 2 = .ok (.getfield 30, 3) := by decide +kernel
theorem dX9_isSo_5 : decode cX9_isSo 5 = .ok (.invokestatic 37, 3) := by decide +kernel
theorem dX9_isSo_8 : decode cX9_isSo 8 = .ok (.ifCond .eq 42, 3) := by decide +kernel
theorem dX9_isSo_11 : decode cX9_isSo 11 = .ok (.aload_n 0, 1) := by decide +kernel
theorem dX9_isSo_12 : decode cX9_isSo 12 = .ok (.getfield 21, 3) := by decide +kernel
theorem dX9_isSo_15 : decode cX9_isSo 15 = .ok (.iload_n 1, 1) := by decide +kernel
theorem dX9_isSo_16 : decode cX9_isSo 16 = .ok (.iaload, 1) := by decide +kernel
theorem dX9_isSo_17 : decode cX9_isSo 17 = .ok (.aload_n 0, 1) := by decide +kernel
theorem dX9_isSo_18 : decode cX9_isSo 18 = .ok (.getfield 24, 3) := by decide +kernel
theorem dX9_isSo_21 : decode cX9_isSo 21 = .ok (.iload_n 1, 1) := by decide +kernel
theorem dX9_isSo_22 : decode cX9_isSo 22 = .ok (.iaload, 1) := by decide +kernel
theorem dX9_isSo_23 : decode cX9_isSo 23 = .ok (.if_icmp .eq 23, 3) := by decide +kernel
theorem dX9_isSo_26 : decode cX9_isSo 26 = .ok (.aload_n 0, 1) := by decide +kernel
theorem dX9_isSo_27 : decode cX9_isSo 27 = .ok (.aload_n 0, 1) := by decide +kernel
theorem dX9_isSo_28 : decode cX9_isSo 28 = .ok (.getfield 21, 3) := by decide +kernel
theorem dX9_isSo_31 : decode cX9_isSo 31 = .ok (.iload_n 1, 1) := by decide +kernel
theorem dX9_isSo_32 : decode cX9_isSo 32 = .ok (.iaload, 1) := by decide +kernel
theorem dX9_isSo_33 : decode cX9_isSo 33 = .ok (.aload_n 0, 1) := by decide +kernel
theorem dX9_isSo_34 : decode cX9_isSo 34 = .ok (.getfield 24, 3) := by decide +kernel
theorem dX9_isSo_37 : decode cX9_isSo 37 = .ok (.iload_n 1, 1) := by decide +kernel
theorem dX9_isSo_38 : decode cX9_isSo 38 = .ok (.iaload, 1) := by decide +kernel
theorem dX9_isSo_39 : decode cX9_isSo 39 = .ok (.aload_n 2, 1) := by decide +kernel
theorem dX9_isSo_40 : decode cX9_isSo 40 = .ok (.invokevirtual 41, 3) := by decide +kernel
theorem dX9_isSo_43 : decode cX9_isSo 43 = .ok (.ifCond .eq 7, 3) := by decide +kernel
theorem dX9_isSo_46 : decode cX9_isSo 46 = .ok (.iconst 1, 1) := by decide +kernel
theorem dX9_isSo_47 : decode cX9_isSo 47 = .ok (.goto 4, 3) := by decide +kernel
theorem dX9_isSo_50 : decode cX9_isSo 50 = .ok (.iconst 0, 1) := by decide +kernel
theorem dX9_isSo_51 : decode cX9_isSo 51 = .ok (.ireturn, 1) := by decide +kernel
theorem dX9_valueOf_0 : decode cX9_valueOf 0 = .ok (.iload_n 1, 1) := by decide +kernel
theorem dX9_valueOf_1 : decode cX9_valueOf 1 = .ok (.aload_n 0, 1) := by decide +kernel
theorem dX9_valueOf_2 : decode cX9_valueOf 2 = .ok (.getfield 30, 3) := by decide +kernel
theorem dX9_valueOf_5 : decode cX9_valueOf 5 = .ok (.invokestatic 37, 3) := by decide +kernel
theorem dX9_valueOf_8 : decode cX9_valueOf 8 = .ok (.ifCond .eq 33, 3) := by decide +kernel
theorem dX9_valueOf_11 : decode cX9_valueOf 11 = .ok (.aload_n 0, 1) := by decide +kernel
theorem dX9_valueOf_12 : decode cX9_valueOf 12 = .ok (.iload_n 1, 1) := by decide +kernel
theorem dX9_valueOf_13 : decode cX9_valueOf 13 = .ok (.ifCond .ne 7, 3) := by decide +kernel
theorem dX9_valueOf_16 : decode cX9_valueOf 16 = .ok (.iconst 0, 1) := by decide +kernel
theorem dX9_valueOf_17 : decode cX9_valueOf 17 = .ok (.goto 11, 3) := by decide +kernel
theorem dX9_valueOf_20 : decode cX9_valueOf 20 = .ok (.aload_n 0, 1) := by decide +kernel
theorem dX9_valueOf_21 : decode cX9_valueOf 21 = .ok (.getfield 24, 3) := by decide +kernel
theorem dX9_valueOf_24 : decode cX9_valueOf 24 = .ok (.iload_n 1, 1) := by decide +kernel
theorem dX9_valueOf_25 : decode cX9_valueOf 25 = .ok (.iconst 1, 1) := by decide +kernel
theorem dX9_valueOf_26 : decode cX9_valueOf 26 = .ok (.isub, 1) := by decide +kernel
theorem dX9_valueOf_27 : decode cX9_valueOf 27 = .ok (.iaload, 1) := by decide +kernel
theorem dX9_valueOf_28 : decode cX9_valueOf 28 = .ok (.aload_n 0, 1) := by decide +kernel
theorem dX9_valueOf_29 : decode cX9_valueOf 29 = .ok (.getfield 21, 3) := by decide +kernel
theorem dX9_valueOf_32 : decode cX9_valueOf 32 = .ok (.iload_n 1, 1) := by decide +kernel
theorem dX9_valueOf_33 : decode cX9_valueOf 33 = .ok (.iaload, 1) := by decide +kernel
theorem dX9_valueOf_34 : decode cX9_valueOf 34 = .ok (.aload_n 2, 1) := by decide +kernel
theorem dX9_valueOf_35 : decode cX9_valueOf 35 = .ok (.invokevirtual 41, 3) := by decide +kernel
theorem dX9_valueOf_38 : decode cX9_valueOf 38 = .ok (.goto 4, 3) := by decide +kernel
theorem dX9_valueOf_41 : decode cX9_valueOf 41 = .ok (.iconst 0, 1) := by decide +kernel
theorem dX9_valueOf_42 : decode cX9_valueOf 42 = .ok (.ireturn, 1) := by decide +kernel
theorem dX9_work_0 : decode cX9_work 0 = .ok (.iconst 2, 1) := by decide +kernel
theorem dX9_work_1 : decode cX9_work 1 = .ok (.istore 4, 2) := by decide +kernel
theorem dX9_work_3 : decode cX9_work 3 = .ok (.iload_n 1, 1) := by decide +kernel
theorem dX9_work_4 : decode cX9_work 4 = .ok (.istore 5, 2) := by decide +kernel
theorem dX9_work_6 : decode cX9_work 6 = .ok (.iload 5, 2) := by decide +kernel
theorem dX9_work_8 : decode cX9_work 8 = .ok (.iload_n 2, 1) := by decide +kernel
theorem dX9_work_9 : decode cX9_work 9 = .ok (.if_icmp .ge 339, 3) := by decide +kernel
theorem dX9_work_12 : decode cX9_work 12 = .ok (.iload 5, 2) := by decide +kernel
theorem dX9_work_14 : decode cX9_work 14 = .ok (.sipush 600, 3) := by decide +kernel
theorem dX9_work_17 : decode cX9_work 17 = .ok (.if_icmp .ge 331, 3) := by decide +kernel
theorem dX9_work_20 : decode cX9_work 20 = .ok (.iload 5, 2) := by decide +kernel
theorem dX9_work_22 : decode cX9_work 22 = .ok (.ifCond .lt 16, 3) := by decide +kernel
theorem dX9_work_25 : decode cX9_work 25 = .ok (.iload 4, 2) := by decide +kernel
theorem dX9_work_27 : decode cX9_work 27 = .ok (.iconst 2, 1) := by decide +kernel
theorem dX9_work_28 : decode cX9_work 28 = .ok (.if_icmp .lt 10, 3) := by decide +kernel
theorem dX9_work_31 : decode cX9_work 31 = .ok (.iload 4, 2) := by decide +kernel
theorem dX9_work_33 : decode cX9_work 33 = .ok (.bipush 32, 2) := by decide +kernel
theorem dX9_work_35 : decode cX9_work 35 = .ok (.if_icmp .lt 5, 3) := by decide +kernel
theorem dX9_work_38 : decode cX9_work 38 = .ok (.iconst 0, 1) := by decide +kernel
theorem dX9_work_39 : decode cX9_work 39 = .ok (.ireturn, 1) := by decide +kernel
theorem dX9_work_40 : decode cX9_work 40 = .ok (.aload_n 0, 1) := by decide +kernel
theorem dX9_work_41 : decode cX9_work 41 = .ok (.getfield 9, 3) := by decide +kernel
theorem dX9_work_44 : decode cX9_work 44 = .ok (.iload 5, 2) := by decide +kernel
theorem dX9_work_46 : decode cX9_work 46 = .ok (.iaload, 1) := by decide +kernel
theorem dX9_work_47 : decode cX9_work 47 = .ok (.sipush 16384, 3) := by decide +kernel
theorem dX9_work_50 : decode cX9_work 50 = .ok (.idiv, 1) := by decide +kernel
theorem dX9_work_51 : decode cX9_work 51 = .ok (.istore 6, 2) := by decide +kernel
theorem dX9_work_53 : decode cX9_work 53 = .ok (.aload_n 0, 1) := by decide +kernel
theorem dX9_work_54 : decode cX9_work 54 = .ok (.getfield 9, 3) := by decide +kernel
theorem dX9_work_57 : decode cX9_work 57 = .ok (.iload 5, 2) := by decide +kernel
theorem dX9_work_59 : decode cX9_work 59 = .ok (.iaload, 1) := by decide +kernel
theorem dX9_work_60 : decode cX9_work 60 = .ok (.sipush 16384, 3) := by decide +kernel
theorem dX9_work_63 : decode cX9_work 63 = .ok (.irem, 1) := by decide +kernel
theorem dX9_work_64 : decode cX9_work 64 = .ok (.istore 7, 2) := by decide +kernel
theorem dX9_work_66 : decode cX9_work 66 = .ok (.aload_n 0, 1) := by decide +kernel
theorem dX9_work_67 : decode cX9_work 67 = .ok (.getfield 27, 3) := by decide +kernel
theorem dX9_work_70 : decode cX9_work 70 = .ok (.iload 4, 2) := by decide +kernel
theorem dX9_work_72 : decode cX9_work 72 = .ok (.iconst 2, 1) := by decide +kernel
theorem dX9_work_73 : decode cX9_work 73 = .ok (.isub, 1) := by decide +kernel
theorem dX9_work_74 : decode cX9_work 74 = .ok (.iaload, 1) := by decide +kernel
theorem dX9_work_75 : decode cX9_work 75 = .ok (.istore 8, 2) := by decide +kernel
theorem dX9_work_77 : decode cX9_work 77 = .ok (.aload_n 0, 1) := by decide +kernel
theorem dX9_work_78 : decode cX9_work 78 = .ok (.getfield 27, 3) := by decide +kernel
theorem dX9_work_81 : decode cX9_work 81 = .ok (.iload 4, 2) := by decide +kernel
theorem dX9_work_83 : decode cX9_work 83 = .ok (.iconst 1, 1) := by decide +kernel
theorem dX9_work_84 : decode cX9_work 84 = .ok (.isub, 1) := by decide +kernel
theorem dX9_work_85 : decode cX9_work 85 = .ok (.iaload, 1) := by decide +kernel
theorem dX9_work_86 : decode cX9_work 86 = .ok (.istore 9, 2) := by decide +kernel
theorem dX9_work_88 : decode cX9_work 88 = .ok (.iconst 0, 1) := by decide +kernel
theorem dX9_work_89 : decode cX9_work 89 = .ok (.istore 10, 2) := by decide +kernel
theorem dX9_work_91 : decode cX9_work 91 = .ok (.iload 6, 2) := by decide +kernel
theorem dX9_work_93 : decode cX9_work 93 = .ok (.tableswitch 205 0 10 #[59, 66, 86, 105, 114, 124, 134, 144, 161, 178, 195], 59) := by decide +kernel
theorem dX9_work_152 : decode cX9_work 152 = .ok (.iload 7, 2) := by decide +kernel
theorem dX9_work_154 : decode cX9_work 154 = .ok (.istore 10, 2) := by decide +kernel
theorem dX9_work_156 : decode cX9_work 156 = .ok (.goto 149, 3) := by decide +kernel
theorem dX9_work_159 : decode cX9_work 159 = .ok (.iload 7, 2) := by decide +kernel
theorem dX9_work_161 : decode cX9_work 161 = .ok (.aload_n 3, 1) := by decide +kernel
theorem dX9_work_162 : decode cX9_work 162 = .ok (.arraylength, 1) := by decide +kernel
theorem dX9_work_163 : decode cX9_work 163 = .ok (.if_icmp .ge 10, 3) := by decide +kernel
theorem dX9_work_166 : decode cX9_work 166 = .ok (.aload_n 3, 1) := by decide +kernel
theorem dX9_work_167 : decode cX9_work 167 = .ok (.iload 7, 2) := by decide +kernel
theorem dX9_work_169 : decode cX9_work 169 = .ok (.iaload, 1) := by decide +kernel
theorem dX9_work_170 : decode cX9_work 170 = .ok (.goto 4, 3) := by decide +kernel
theorem dX9_work_173 : decode cX9_work 173 = .ok (.iconst 0, 1) := by decide +kernel
theorem dX9_work_174 : decode cX9_work 174 = .ok (.istore 10, 2) := by decide +kernel
theorem dX9_work_176 : decode cX9_work 176 = .ok (.goto 129, 3) := by decide +kernel
theorem dX9_work_179 : decode cX9_work 179 = .ok (.iload 7, 2) := by decide +kernel
theorem dX9_work_181 : decode cX9_work 181 = .ok (.ifCond .ne 7, 3) := by decide +kernel
theorem dX9_work_184 : decode cX9_work 184 = .ok (.iconst 0, 1) := by decide +kernel
theorem dX9_work_185 : decode cX9_work 185 = .ok (.goto 8, 3) := by decide +kernel
theorem dX9_work_188 : decode cX9_work 188 = .ok (.iload 9, 2) := by decide +kernel
theorem dX9_work_190 : decode cX9_work 190 = .ok (.iload 7, 2) := by decide +kernel
theorem dX9_work_192 : decode cX9_work 192 = .ok (.idiv, 1) := by decide +kernel
theorem dX9_work_193 : decode cX9_work 193 = .ok (.istore 10, 2) := by decide +kernel
theorem dX9_work_195 : decode cX9_work 195 = .ok (.goto 110, 3) := by decide +kernel
theorem dX9_work_198 : decode cX9_work 198 = .ok (.iconst 1, 1) := by decide +kernel
theorem dX9_work_199 : decode cX9_work 199 = .ok (.iload 9, 2) := by decide +kernel
theorem dX9_work_201 : decode cX9_work 201 = .ok (.isub, 1) := by decide +kernel
theorem dX9_work_202 : decode cX9_work 202 = .ok (.istore 10, 2) := by decide +kernel
theorem dX9_work_204 : decode cX9_work 204 = .ok (.goto 101, 3) := by decide +kernel
theorem dX9_work_207 : decode cX9_work 207 = .ok (.iload 8, 2) := by decide +kernel
theorem dX9_work_209 : decode cX9_work 209 = .ok (.iload 9, 2) := by decide +kernel
theorem dX9_work_211 : decode cX9_work 211 = .ok (.iadd, 1) := by decide +kernel
theorem dX9_work_212 : decode cX9_work 212 = .ok (.istore 10, 2) := by decide +kernel
theorem dX9_work_214 : decode cX9_work 214 = .ok (.goto 91, 3) := by decide +kernel
theorem dX9_work_217 : decode cX9_work 217 = .ok (.iload 8, 2) := by decide +kernel
theorem dX9_work_219 : decode cX9_work 219 = .ok (.iload 9, 2) := by decide +kernel
theorem dX9_work_221 : decode cX9_work 221 = .ok (.isub, 1) := by decide +kernel
theorem dX9_work_222 : decode cX9_work 222 = .ok (.istore 10, 2) := by decide +kernel
theorem dX9_work_224 : decode cX9_work 224 = .ok (.goto 81, 3) := by decide +kernel
theorem dX9_work_227 : decode cX9_work 227 = .ok (.iload 8, 2) := by decide +kernel
theorem dX9_work_229 : decode cX9_work 229 = .ok (.iload 9, 2) := by decide +kernel
theorem dX9_work_231 : decode cX9_work 231 = .ok (.imul, 1) := by decide +kernel
theorem dX9_work_232 : decode cX9_work 232 = .ok (.istore 10, 2) := by decide +kernel
theorem dX9_work_234 : decode cX9_work 234 = .ok (.goto 71, 3) := by decide +kernel
theorem dX9_work_237 : decode cX9_work 237 = .ok (.iload 8, 2) := by decide +kernel
theorem dX9_work_239 : decode cX9_work 239 = .ok (.iload 9, 2) := by decide +kernel
theorem dX9_work_241 : decode cX9_work 241 = .ok (.if_icmp .ge 7, 3) := by decide +kernel
theorem dX9_work_244 : decode cX9_work 244 = .ok (.iconst 1, 1) := by decide +kernel
theorem dX9_work_245 : decode cX9_work 245 = .ok (.goto 4, 3) := by decide +kernel
theorem dX9_work_248 : decode cX9_work 248 = .ok (.iconst 0, 1) := by decide +kernel
theorem dX9_work_249 : decode cX9_work 249 = .ok (.istore 10, 2) := by decide +kernel
theorem dX9_work_251 : decode cX9_work 251 = .ok (.goto 54, 3) := by decide +kernel
theorem dX9_work_254 : decode cX9_work 254 = .ok (.iload 8, 2) := by decide +kernel
theorem dX9_work_256 : decode cX9_work 256 = .ok (.iload 9, 2) := by decide +kernel
theorem dX9_work_258 : decode cX9_work 258 = .ok (.if_icmp .ne 7, 3) := by decide +kernel
theorem dX9_work_261 : decode cX9_work 261 = .ok (.iconst 1, 1) := by decide +kernel
theorem dX9_work_262 : decode cX9_work 262 = .ok (.goto 4, 3) := by decide +kernel
theorem dX9_work_265 : decode cX9_work 265 = .ok (.iconst 0, 1) := by decide +kernel
theorem dX9_work_266 : decode cX9_work 266 = .ok (.istore 10, 2) := by decide +kernel
theorem dX9_work_268 : decode cX9_work 268 = .ok (.goto 37, 3) := by decide +kernel
theorem dX9_work_271 : decode cX9_work 271 = .ok (.iload 8, 2) := by decide +kernel
theorem dX9_work_273 : decode cX9_work 273 = .ok (.iload 9, 2) := by decide +kernel
theorem dX9_work_275 : decode cX9_work 275 = .ok (.if_icmp .le 7, 3) := by decide +kernel
theorem dX9_work_278 : decode cX9_work 278 = .ok (.iconst 1, 1) := by decide +kernel
theorem dX9_work_279 : decode cX9_work 279 = .ok (.goto 4, 3) := by decide +kernel
theorem dX9_work_282 : decode cX9_work 282 = .ok (.iconst 0, 1) := by decide +kernel
theorem dX9_work_283 : decode cX9_work 283 = .ok (.istore 10, 2) := by decide +kernel
theorem dX9_work_285 : decode cX9_work 285 = .ok (.goto 20, 3) := by decide +kernel
theorem dX9_work_288 : decode cX9_work 288 = .ok (.iload 8, 2) := by decide +kernel
theorem dX9_work_290 : decode cX9_work 290 = .ok (.iload 9, 2) := by decide +kernel
theorem dX9_work_292 : decode cX9_work 292 = .ok (.iand, 1) := by decide +kernel
theorem dX9_work_293 : decode cX9_work 293 = .ok (.istore 10, 2) := by decide +kernel
theorem dX9_work_295 : decode cX9_work 295 = .ok (.goto 10, 3) := by decide +kernel
theorem dX9_work_298 : decode cX9_work 298 = .ok (.iload 8, 2) := by decide +kernel
theorem dX9_work_300 : decode cX9_work 300 = .ok (.iload 9, 2) := by decide +kernel
theorem dX9_work_302 : decode cX9_work 302 = .ok (.ior, 1) := by decide +kernel
theorem dX9_work_303 : decode cX9_work 303 = .ok (.istore 10, 2) := by decide +kernel
theorem dX9_work_305 : decode cX9_work 305 = .ok (.iload 4, 2) := by decide +kernel
theorem dX9_work_307 : decode cX9_work 307 = .ok (.iload 6, 2) := by decide +kernel
theorem dX9_work_309 : decode cX9_work 309 = .ok (.iconst 1, 1) := by decide +kernel
theorem dX9_work_310 : decode cX9_work 310 = .ok (.if_icmp .gt 7, 3) := by decide +kernel
theorem dX9_work_313 : decode cX9_work 313 = .ok (.iconst 1, 1) := by decide +kernel
theorem dX9_work_314 : decode cX9_work 314 = .ok (.goto 14, 3) := by decide +kernel
theorem dX9_work_317 : decode cX9_work 317 = .ok (.iload 6, 2) := by decide +kernel
theorem dX9_work_319 : decode cX9_work 319 = .ok (.iconst 3, 1) := by decide +kernel
theorem dX9_work_320 : decode cX9_work 320 = .ok (.if_icmp .gt 7, 3) := by decide +kernel
theorem dX9_work_323 : decode cX9_work 323 = .ok (.iconst 0, 1) := by decide +kernel
theorem dX9_work_324 : decode cX9_work 324 = .ok (.goto 4, 3) := by decide +kernel
theorem dX9_work_327 : decode cX9_work 327 = .ok (.iconst (-1), 1) := by decide +kernel
theorem dX9_work_328 : decode cX9_work 328 = .ok (.iadd, 1) := by decide +kernel
theorem dX9_work_329 : decode cX9_work 329 = .ok (.istore 4, 2) := by decide +kernel
theorem dX9_work_331 : decode cX9_work 331 = .ok (.aload_n 0, 1) := by decide +kernel
theorem dX9_work_332 : decode cX9_work 332 = .ok (.getfield 27, 3) := by decide +kernel
theorem dX9_work_335 : decode cX9_work 335 = .ok (.iload 4, 2) := by decide +kernel
theorem dX9_work_337 : decode cX9_work 337 = .ok (.iconst 1, 1) := by decide +kernel
theorem dX9_work_338 : decode cX9_work 338 = .ok (.isub, 1) := by decide +kernel
theorem dX9_work_339 : decode cX9_work 339 = .ok (.iload 10, 2) := by decide +kernel
theorem dX9_work_341 : decode cX9_work 341 = .ok (.iastore, 1) := by decide +kernel
theorem dX9_work_342 : decode cX9_work 342 = .ok (.iinc 5 1, 3) := by decide +kernel
theorem dX9_work_345 : decode cX9_work 345 = .ok (.goto (-339), 3) := by decide +kernel
theorem dX9_work_348 : decode cX9_work 348 = .ok (.iload 4, 2) := by decide +kernel
theorem dX9_work_350 : decode cX9_work 350 = .ok (.iconst 2, 1) := by decide +kernel
theorem dX9_work_351 : decode cX9_work 351 = .ok (.if_icmp .le 15, 3) := by decide +kernel
theorem dX9_work_354 : decode cX9_work 354 = .ok (.aload_n 0, 1) := by decide +kernel
theorem dX9_work_355 : decode cX9_work 355 = .ok (.getfield 27, 3) := by decide +kernel
theorem dX9_work_358 : decode cX9_work 358 = .ok (.iload 4, 2) := by decide +kernel
theorem dX9_work_360 : decode cX9_work 360 = .ok (.iconst 1, 1) := by decide +kernel
theorem dX9_work_361 : decode cX9_work 361 = .ok (.isub, 1) := by decide +kernel
theorem dX9_work_362 : decode cX9_work 362 = .ok (.iaload, 1) := by decide +kernel
theorem dX9_work_363 : decode cX9_work 363 = .ok (.goto 4, 3) := by decide +kernel
theorem dX9_work_366 : decode cX9_work 366 = .ok (.iconst 0, 1) := by decide +kernel
theorem dX9_work_367 : decode cX9_work 367 = .ok (.ireturn, 1) := by decide +kernel
