theorem dX0_init_0 : decode cX0_init 0 = .ok (.aload_n 0, 1) := by decide +kernel
theorem dX0_init_1 : decode cX0_init 1 = .ok (.invokespecial 3, 3) := by decide +kernel
theorem dX0_init_4 : decode cX0_init 4 = .ok (.aload_n 0, 1) := by decide +kernel
theorem dX0_init_5 : decode cX0_init 5 = .ok (.iconst 3, 1) := by decide +kernel
theorem dX0_init_6 : decode cX0_init 6 = .ok (.putfield 9, 3) := by decide +kernel
theorem dX0_init_9 : decode cX0_init 9 = .ok (.aload_n 0, 1) := by decide +kernel
theorem dX0_init_10 : decode cX0_init 10 = .ok (.bipush 60, 2) := by decide +kernel
theorem dX0_init_12 : decode cX0_init 12 = .ok (.newarray .int, 2) := by decide +kernel
theorem dX0_init_14 : decode cX0_init 14 = .ok (.putfield 15, 3) := by decide +kernel
theorem dX0_init_17 : decode cX0_init 17 = .ok (.aload_n 0, 1) := by decide +kernel
theorem dX0_init_18 : decode cX0_init 18 = .ok (.bipush 60, 2) := by decide +kernel
theorem dX0_init_20 : decode cX0_init 20 = .ok (.newarray .int, 2) := by decide +kernel
theorem dX0_init_22 : decode cX0_init 22 = .ok (.putfield 19, 3) := by decide +kernel
theorem dX0_init_25 : decode cX0_init 25 = .ok (.aload_n 0, 1) := by decide +kernel
theorem dX0_init_26 : decode cX0_init 26 = .ok (.bipush 60, 2) := by decide +kernel
theorem dX0_init_28 : decode cX0_init 28 = .ok (.newarray .int, 2) := by decide +kernel
theorem dX0_init_30 : decode cX0_init 30 = .ok (.putfield 22, 3) := by decide +kernel
theorem dX0_init_33 : decode cX0_init 33 = .ok (.return_, 1) := by decide +kernel
theorem dX0_fill_0 : decode cX0_fill 0 = .ok (.aload_n 0, 1) := by decide +kernel
theorem dX0_fill_1 : decode cX0_fill 1 = .ok (.getfield 25, 3) := by decide +kernel
theorem dX0_fill_4 : decode cX0_fill 4 = .ok (.bipush 60, 2) := by decide +kernel
theorem dX0_fill_6 : decode cX0_fill 6 = .ok (.if_icmp .lt 5, 3) := by decide +kernel
theorem dX0_fill_9 : decode cX0_fill 9 = .ok (.iconst (-1), 1) := by decide +kernel
theorem dX0_fill_10 : decode cX0_fill 10 = .ok (.ireturn, 1) := by decide +kernel
theorem dX0_fill_11 : decode cX0_fill 11 = .ok (.aload_n 0, 1) := by decide +kernel
theorem dX0_fill_12 : decode cX0_fill 12 = .ok (.getfield 15, 3) := by decide +kernel
theorem dX0_fill_15 : decode cX0_fill 15 = .ok (.aload_n 0, 1) := by decide +kernel
theorem dX0_fill_16 : decode cX0_fill 16 = .ok (.getfield 25, 3) := by decide +kernel
theorem dX0_fill_19 : decode cX0_fill 19 = .ok (.iload_n 1, 1) := by decide +kernel
theorem dX0_fill_20 : decode cX0_fill 20 = .ok (.iastore, 1) := by decide +kernel
theorem dX0_fill_21 : decode cX0_fill 21 = .ok (.aload_n 0, 1) := by decide +kernel
theorem dX0_fill_22 : decode cX0_fill 22 = .ok (.getfield 19, 3) := by decide +kernel
theorem dX0_fill_25 : decode cX0_fill 25 = .ok (.aload_n 0, 1) := by decide +kernel
theorem dX0_fill_26 : decode cX0_fill 26 = .ok (.getfield 25, 3) := by decide +kernel
theorem dX0_fill_29 : decode cX0_fill 29 = .ok (.iload_n 2, 1) := by decide +kernel
theorem dX0_fill_30 : decode cX0_fill 30 = .ok (.iastore, 1) := by decide +kernel
theorem dX0_fill_31 : decode cX0_fill 31 = .ok (.aload_n 0, 1) := by decide +kernel
theorem dX0_fill_32 : decode cX0_fill 32 = .ok (.getfield 22, 3) := by decide +kernel
theorem dX0_fill_35 : decode cX0_fill 35 = .ok (.aload_n 0, 1) := by decide +kernel
theorem dX0_fill_36 : decode cX0_fill 36 = .ok (.getfield 25, 3) := by decide +kernel
theorem dX0_fill_39 : decode cX0_fill 39 = .ok (.iload_n 3, 1) := by decide +kernel
theorem dX0_fill_40 : decode cX0_fill 40 = .ok (.iastore, 1) := by decide +kernel
theorem dX0_fill_41 : decode cX0_fill 41 = .ok (.aload_n 0, 1) := by decide +kernel
theorem dX0_fill_42 : decode cX0_fill 42 = .ok (.dup, 1) := by decide +kernel
theorem dX0_fill_43 : decode cX0_fill 43 = .ok (.getfield 25, 3) := by decide +kernel
theorem dX0_fill_46 : decode cX0_fill 46 = .ok (.iconst 1, 1) := by decide +kernel
theorem dX0_fill_47 : decode cX0_fill 47 = .ok (.iadd, 1) := by decide +kernel
theorem dX0_fill_48 : decode cX0_fill 48 = .ok (.putfield 25, 3) := by decide +kernel
theorem dX0_fill_51 : decode cX0_fill 51 = .ok (.aload_n 0, 1) := by decide +kernel
theorem dX0_fill_52 : decode cX0_fill 52 = .ok (.getfield 25, 3) := by decide +kernel
theorem dX0_fill_55 : decode cX0_fill 55 = .ok (.iconst 1, 1) := by decide +kernel
theorem dX0_fill_56 : decode cX0_fill 56 = .ok (.isub, 1) := by decide +kernel
theorem dX0_fill_57 : decode cX0_fill 57 = .ok (.ireturn, 1) := by decide +kernel
theorem dX0_lastWet_0 : decode cX0_lastWet 0 = .ok (.aload_n 0, 1) := by decide +kernel
theorem dX0_lastWet_1 : decode cX0_lastWet 1 = .ok (.getfield 25, 3) := by decide +kernel
theorem dX0_lastWet_4 : decode cX0_lastWet 4 = .ok (.iconst 1, 1) := by decide +kernel
theorem dX0_lastWet_5 : decode cX0_lastWet 5 = .ok (.isub, 1) := by decide +kernel
theorem dX0_lastWet_6 : decode cX0_lastWet 6 = .ok (.bipush 60, 2) := by decide +kernel
theorem dX0_lastWet_8 : decode cX0_lastWet 8 = .ok (.invokestatic 28, 3) := by decide +kernel
theorem dX0_lastWet_11 : decode cX0_lastWet 11 = .ok (.ifCond .eq 17, 3) := by decide +kernel
theorem dX0_lastWet_14 : decode cX0_lastWet 14 = .ok (.aload_n 0, 1) := by decide +kernel
theorem dX0_lastWet_15 : decode cX0_lastWet 15 = .ok (.getfield 19, 3) := by decide +kernel
theorem dX0_lastWet_18 : decode cX0_lastWet 18 = .ok (.aload_n 0, 1) := by decide +kernel
theorem dX0_lastWet_19 : decode cX0_lastWet 19 = .ok (.getfield 25, 3) := by decide +kernel
theorem dX0_lastWet_22 : decode cX0_lastWet 22 = .ok (.iconst 1, 1) := by decide +kernel
theorem dX0_lastWet_23 : decode cX0_lastWet 23 = .ok (.isub, 1) := by decide +kernel
theorem dX0_lastWet_24 : decode cX0_lastWet 24 = .ok (.iaload, 1) := by decide +kernel
theorem dX0_lastWet_25 : decode cX0_lastWet 25 = .ok (.goto 4, 3) := by decide +kernel
theorem dX0_lastWet_28 : decode cX0_lastWet 28 = .ok (.iconst 0, 1) := by decide +kernel
theorem dX0_lastWet_29 : decode cX0_lastWet 29 = .ok (.ireturn, 1) := by decide +kernel
theorem dX0_age_0 : decode cX0_age 0 = .ok (.aload_n 0, 1) := by decide +kernel
theorem dX0_age_1 : decode cX0_age 1 = .ok (.getfield 25, 3) := by decide +kernel
theorem dX0_age_4 : decode cX0_age 4 = .ok (.iconst 1, 1) := by decide +kernel
theorem dX0_age_5 : decode cX0_age 5 = .ok (.isub, 1) := by decide +kernel
theorem dX0_age_6 : decode cX0_age 6 = .ok (.bipush 60, 2) := by decide +kernel
theorem dX0_age_8 : decode cX0_age 8 = .ok (.invokestatic 28, 3) := by decide +kernel
theorem dX0_age_11 : decode cX0_age 11 = .ok (.ifCond .eq 24, 3) := by decide +kernel
theorem dX0_age_14 : decode cX0_age 14 = .ok (.iload_n 1, 1) := by decide +kernel
theorem dX0_age_15 : decode cX0_age 15 = .ok (.aload_n 0, 1) := by decide +kernel
theorem dX0_age_16 : decode cX0_age 16 = .ok (.getfield 22, 3) := by decide +kernel
theorem dX0_age_19 : decode cX0_age 19 = .ok (.aload_n 0, 1) := by decide +kernel
theorem dX0_age_20 : decode cX0_age 20 = .ok (.getfield 25, 3) := by decide +kernel
theorem dX0_age_23 : decode cX0_age 23 = .ok (.iconst 1, 1) := by decide +kernel
theorem dX0_age_24 : decode cX0_age 24 = .ok (.isub, 1) := by decide +kernel
theorem dX0_age_25 : decode cX0_age 25 = .ok (.iaload, 1) := by decide +kernel
theorem dX0_age_26 : decode cX0_age 26 = .ok (.isub, 1) := by decide +kernel
theorem dX0_age_27 : decode cX0_age 27 = .ok (.bipush 99, 2) := by decide +kernel
theorem dX0_age_29 : decode cX0_age 29 = .ok (.invokestatic 32, 3) := by decide +kernel
theorem dX0_age_32 : decode cX0_age 32 = .ok (.goto 5, 3) := by decide +kernel
theorem dX0_age_35 : decode cX0_age 35 = .ok (.bipush 99, 2) := by decide +kernel
theorem dX0_age_37 : decode cX0_age 37 = .ok (.ireturn, 1) := by decide +kernel
theorem dX0_least_0 : decode cX0_least 0 = .ok (.iconst 0, 1) := by decide +kernel
theorem dX0_least_1 : decode cX0_least 1 = .ok (.istore_n 3, 1) := by decide +kernel
theorem dX0_least_2 : decode cX0_least 2 = .ok (.iconst 0, 1) := by decide +kernel
theorem dX0_least_3 : decode cX0_least 3 = .ok (.istore 4, 2) := by decide +kernel
theorem dX0_least_5 : decode cX0_least 5 = .ok (.iload 4, 2) := by decide +kernel
theorem dX0_least_7 : decode cX0_least 7 = .ok (.aload_n 0, 1) := by decide +kernel
theorem dX0_least_8 : decode cX0_least 8 = .ok (.getfield 25, 3) := by decide +kernel
theorem dX0_least_11 : decode cX0_least 11 = .ok (.if_icmp .ge 56, 3) := by decide +kernel
theorem dX0_least_14 : decode cX0_least 14 = .ok (.iload 4, 2) := by decide +kernel
theorem dX0_least_16 : decode cX0_least 16 = .ok (.bipush 60, 2) := by decide +kernel
theorem dX0_least_18 : decode cX0_least 18 = .ok (.if_icmp .ge 49, 3) := by decide +kernel
theorem dX0_least_21 : decode cX0_least 21 = .ok (.aload_n 0, 1) := by decide +kernel
theorem dX0_least_22 : decode cX0_least 22 = .ok (.getfield 22, 3) := by decide +kernel
theorem dX0_least_25 : decode cX0_least 25 = .ok (.iload 4, 2) := by decide +kernel
theorem dX0_least_27 : decode cX0_least 27 = .ok (.iaload, 1) := by decide +kernel
theorem dX0_least_28 : decode cX0_least 28 = .ok (.iload_n 2, 1) := by decide +kernel
theorem dX0_least_29 : decode cX0_least 29 = .ok (.if_icmp .gt 32, 3) := by decide +kernel
theorem dX0_least_32 : decode cX0_least 32 = .ok (.iload_n 3, 1) := by decide +kernel
theorem dX0_least_33 : decode cX0_least 33 = .ok (.aload_n 0, 1) := by decide +kernel
theorem dX0_least_34 : decode cX0_least 34 = .ok (.getfield 19, 3) := by decide +kernel
theorem dX0_least_37 : decode cX0_least 37 = .ok (.iload 4, 2) := by decide +kernel
theorem dX0_least_39 : decode cX0_least 39 = .ok (.iaload, 1) := by decide +kernel
theorem dX0_least_40 : decode cX0_least 40 = .ok (.aload_n 0, 1) := by decide +kernel
theorem dX0_least_41 : decode cX0_least 41 = .ok (.getfield 9, 3) := by decide +kernel
theorem dX0_least_44 : decode cX0_least 44 = .ok (.aload_n 0, 1) := by decide +kernel
theorem dX0_least_45 : decode cX0_least 45 = .ok (.getfield 15, 3) := by decide +kernel
theorem dX0_least_48 : decode cX0_least 48 = .ok (.iload 4, 2) := by decide +kernel
theorem dX0_least_50 : decode cX0_least 50 = .ok (.iaload, 1) := by decide +kernel
theorem dX0_least_51 : decode cX0_least 51 = .ok (.iload_n 1, 1) := by decide +kernel
theorem dX0_least_52 : decode cX0_least 52 = .ok (.invokestatic 38, 3) := by decide +kernel
theorem dX0_least_55 : decode cX0_least 55 = .ok (.imul, 1) := by decide +kernel
theorem dX0_least_56 : decode cX0_least 56 = .ok (.isub, 1) := by decide +kernel
theorem dX0_least_57 : decode cX0_least 57 = .ok (.invokestatic 41, 3) := by decide +kernel
theorem dX0_least_60 : decode cX0_least 60 = .ok (.istore_n 3, 1) := by decide +kernel
theorem dX0_least_61 : decode cX0_least 61 = .ok (.iinc 4 1, 3) := by decide +kernel
theorem dX0_least_64 : decode cX0_least 64 = .ok (.goto (-59), 3) := by decide +kernel
theorem dX0_least_67 : decode cX0_least 67 = .ok (.iload_n 3, 1) := by decide +kernel
theorem dX0_least_68 : decode cX0_least 68 = .ok (.bipush 99, 2) := by decide +kernel
theorem dX0_least_70 : decode cX0_least 70 = .ok (.invokestatic 32, 3) := by decide +kernel
theorem dX0_least_73 : decode cX0_least 73 = .ok (.ireturn, 1) := by decide +kernel
theorem dX0_greatest_0 : decode cX0_greatest 0 = .ok (.bipush 99, 2) := by decide +kernel
theorem dX0_greatest_2 : decode cX0_greatest 2 = .ok (.istore_n 3, 1) := by decide +kernel
theorem dX0_greatest_3 : decode cX0_greatest 3 = .ok (.iconst 0, 1) := by decide +kernel
theorem dX0_greatest_4 : decode cX0_greatest 4 = .ok (.istore 4, 2) := by decide +kernel
theorem dX0_greatest_6 : decode cX0_greatest 6 = .ok (.iload 4, 2) := by decide +kernel
theorem dX0_greatest_8 : decode cX0_greatest 8 = .ok (.aload_n 0, 1) := by decide +kernel
theorem dX0_greatest_9 : decode cX0_greatest 9 = .ok (.getfield 25, 3) := by decide +kernel
theorem dX0_greatest_12 : decode cX0_greatest 12 = .ok (.if_icmp .ge 56, 3) := by decide +kernel
theorem dX0_greatest_15 : decode cX0_greatest 15 = .ok (.iload 4, 2) := by decide +kernel
theorem dX0_greatest_17 : decode cX0_greatest 17 = .ok (.bipush 60, 2) := by decide +kernel
theorem dX0_greatest_19 : decode cX0_greatest 19 = .ok (.if_icmp .ge 49, 3) := by decide +kernel
theorem dX0_greatest_22 : decode cX0_greatest 22 = .ok (.aload_n 0, 1) := by decide +kernel
theorem dX0_greatest_23 : decode cX0_greatest 23 = .ok (.getfield 22, 3) := by decide +kernel
theorem dX0_greatest_26 : decode cX0_greatest 26 = .ok (.iload 4, 2) := by decide +kernel
theorem dX0_greatest_28 : decode cX0_greatest 28 = .ok (.iaload, 1) := by decide +kernel
theorem dX0_greatest_29 : decode cX0_greatest 29 = .ok (.iload_n 2, 1) := by decide +kernel
theorem dX0_greatest_30 : decode cX0_greatest 30 = .ok (.if_icmp .gt 32, 3) := by decide +kernel
theorem dX0_greatest_33 : decode cX0_greatest 33 = .ok (.iload_n 3, 1) := by decide +kernel
theorem dX0_greatest_34 : decode cX0_greatest 34 = .ok (.aload_n 0, 1) := by decide +kernel
theorem dX0_greatest_35 : decode cX0_greatest 35 = .ok (.getfield 19, 3) := by decide +kernel
theorem dX0_greatest_38 : decode cX0_greatest 38 = .ok (.iload 4, 2) := by decide +kernel
theorem dX0_greatest_40 : decode cX0_greatest 40 = .ok (.iaload, 1) := by decide +kernel
theorem dX0_greatest_41 : decode cX0_greatest 41 = .ok (.aload_n 0, 1) := by decide +kernel
theorem dX0_greatest_42 : decode cX0_greatest 42 = .ok (.getfield 9, 3) := by decide +kernel
theorem dX0_greatest_45 : decode cX0_greatest 45 = .ok (.aload_n 0, 1) := by decide +kernel
theorem dX0_greatest_46 : decode cX0_greatest 46 = .ok (.getfield 15, 3) := by decide +kernel
theorem dX0_greatest_49 : decode cX0_greatest 49 = .ok (.iload 4, 2) := by decide +kernel
theorem dX0_greatest_51 : decode cX0_greatest 51 = .ok (.iaload, 1) := by decide +kernel
theorem dX0_greatest_52 : decode cX0_greatest 52 = .ok (.iload_n 1, 1) := by decide +kernel
theorem dX0_greatest_53 : decode cX0_greatest 53 = .ok (.invokestatic 38, 3) := by decide +kernel
theorem dX0_greatest_56 : decode cX0_greatest 56 = .ok (.imul, 1) := by decide +kernel
theorem dX0_greatest_57 : decode cX0_greatest 57 = .ok (.iadd, 1) := by decide +kernel
theorem dX0_greatest_58 : decode cX0_greatest 58 = .ok (.invokestatic 32, 3) := by decide +kernel
theorem dX0_greatest_61 : decode cX0_greatest 61 = .ok (.istore_n 3, 1) := by decide +kernel
theorem dX0_greatest_62 : decode cX0_greatest 62 = .ok (.iinc 4 1, 3) := by decide +kernel
theorem dX0_greatest_65 : decode cX0_greatest 65 = .ok (.goto (-59), 3) := by decide +kernel
theorem dX0_greatest_68 : decode cX0_greatest 68 = .ok (.iload_n 3, 1) := by decide +kernel
theorem dX0_greatest_69 : decode cX0_greatest 69 = .ok (.ireturn, 1) := by decide +kernel
theorem dX0_meanEnd_0 : decode cX0_meanEnd 0 = .ok (.iconst 0, 1) := by decide +kernel
theorem dX0_meanEnd_1 : decode cX0_meanEnd 1 = .ok (.istore 4, 2) := by decide +kernel
theorem dX0_meanEnd_3 : decode cX0_meanEnd 3 = .ok (.iconst 0, 1) := by decide +kernel
theorem dX0_meanEnd_4 : decode cX0_meanEnd 4 = .ok (.istore 5, 2) := by decide +kernel
theorem dX0_meanEnd_6 : decode cX0_meanEnd 6 = .ok (.iconst 0, 1) := by decide +kernel
theorem dX0_meanEnd_7 : decode cX0_meanEnd 7 = .ok (.istore 6, 2) := by decide +kernel
theorem dX0_meanEnd_9 : decode cX0_meanEnd 9 = .ok (.iload 6, 2) := by decide +kernel
theorem dX0_meanEnd_11 : decode cX0_meanEnd 11 = .ok (.aload_n 1, 1) := by decide +kernel
theorem dX0_meanEnd_12 : decode cX0_meanEnd 12 = .ok (.getfield 44, 3) := by decide +kernel
theorem dX0_meanEnd_15 : decode cX0_meanEnd 15 = .ok (.arraylength, 1) := by decide +kernel
theorem dX0_meanEnd_16 : decode cX0_meanEnd 16 = .ok (.if_icmp .ge 48, 3) := by decide +kernel
theorem dX0_meanEnd_19 : decode cX0_meanEnd 19 = .ok (.aload_n 1, 1) := by decide +kernel
theorem dX0_meanEnd_20 : decode cX0_meanEnd 20 = .ok (.getfield 44, 3) := by decide +kernel
theorem dX0_meanEnd_23 : decode cX0_meanEnd 23 = .ok (.iload 6, 2) := by decide +kernel
theorem dX0_meanEnd_25 : decode cX0_meanEnd 25 = .ok (.iaload, 1) := by decide +kernel
theorem dX0_meanEnd_26 : decode cX0_meanEnd 26 = .ok (.ifCond .le 32, 3) := by decide +kernel
theorem dX0_meanEnd_29 : decode cX0_meanEnd 29 = .ok (.iload 4, 2) := by decide +kernel
theorem dX0_meanEnd_31 : decode cX0_meanEnd 31 = .ok (.iload_n 3, 1) := by decide +kernel
theorem dX0_meanEnd_32 : decode cX0_meanEnd 32 = .ok (.ifCond .eq 13, 3) := by decide +kernel
theorem dX0_meanEnd_35 : decode cX0_meanEnd 35 = .ok (.aload_n 0, 1) := by decide +kernel
theorem dX0_meanEnd_36 : decode cX0_meanEnd 36 = .ok (.iload 6, 2) := by decide +kernel
theorem dX0_meanEnd_38 : decode cX0_meanEnd 38 = .ok (.iload_n 2, 1) := by decide +kernel
theorem dX0_meanEnd_39 : decode cX0_meanEnd 39 = .ok (.invokevirtual 49, 3) := by decide +kernel
theorem dX0_meanEnd_42 : decode cX0_meanEnd 42 = .ok (.goto 10, 3) := by decide +kernel
theorem dX0_meanEnd_45 : decode cX0_meanEnd 45 = .ok (.aload_n 0, 1) := by decide +kernel
theorem dX0_meanEnd_46 : decode cX0_meanEnd 46 = .ok (.iload 6, 2) := by decide +kernel
theorem dX0_meanEnd_48 : decode cX0_meanEnd 48 = .ok (.iload_n 2, 1) := by decide +kernel
theorem dX0_meanEnd_49 : decode cX0_meanEnd 49 = .ok (.invokevirtual 52, 3) := by decide +kernel
theorem dX0_meanEnd_52 : decode cX0_meanEnd 52 = .ok (.iadd, 1) := by decide +kernel
theorem dX0_meanEnd_53 : decode cX0_meanEnd 53 = .ok (.istore 4, 2) := by decide +kernel
theorem dX0_meanEnd_55 : decode cX0_meanEnd 55 = .ok (.iinc 5 1, 3) := by decide +kernel
theorem dX0_meanEnd_58 : decode cX0_meanEnd 58 = .ok (.iinc 6 1, 3) := by decide +kernel
theorem dX0_meanEnd_61 : decode cX0_meanEnd 61 = .ok (.goto (-52), 3) := by decide +kernel
theorem dX0_meanEnd_64 : decode cX0_meanEnd 64 = .ok (.iload 5, 2) := by decide +kernel
theorem dX0_meanEnd_66 : decode cX0_meanEnd 66 = .ok (.ifCond .le 11, 3) := by decide +kernel
theorem dX0_meanEnd_69 : decode cX0_meanEnd 69 = .ok (.iload 4, 2) := by decide +kernel
theorem dX0_meanEnd_71 : decode cX0_meanEnd 71 = .ok (.iload 5, 2) := by decide +kernel
theorem dX0_meanEnd_73 : decode cX0_meanEnd 73 = .ok (.idiv, 1) := by decide +kernel
theorem dX0_meanEnd_74 : decode cX0_meanEnd 74 = .ok (.goto 4, 3) := by decide +kernel
theorem dX0_meanEnd_77 : decode cX0_meanEnd 77 = .ok (.iconst (-1), 1) := by decide +kernel
theorem dX0_meanEnd_78 : decode cX0_meanEnd 78 = .ok (.ireturn, 1) := by decide +kernel
theorem dX0_distance_0 : decode cX0_distance 0 = .ok (.iload_n 0, 1) := by decide +kernel
theorem dX0_distance_1 : decode cX0_distance 1 = .ok (.bipush 32, 2) := by decide +kernel
theorem dX0_distance_3 : decode cX0_distance 3 = .ok (.idiv, 1) := by decide +kernel
theorem dX0_distance_4 : decode cX0_distance 4 = .ok (.iload_n 1, 1) := by decide +kernel
theorem dX0_distance_5 : decode cX0_distance 5 = .ok (.bipush 32, 2) := by decide +kernel
theorem dX0_distance_7 : decode cX0_distance 7 = .ok (.idiv, 1) := by decide +kernel
theorem dX0_distance_8 : decode cX0_distance 8 = .ok (.isub, 1) := by decide +kernel
theorem dX0_distance_9 : decode cX0_distance 9 = .ok (.istore_n 2, 1) := by decide +kernel
theorem dX0_distance_10 : decode cX0_distance 10 = .ok (.iload_n 0, 1) := by decide +kernel
theorem dX0_distance_11 : decode cX0_distance 11 = .ok (.iconst 4, 1) := by decide +kernel
theorem dX0_distance_12 : decode cX0_distance 12 = .ok (.idiv, 1) := by decide +kernel
theorem dX0_distance_13 : decode cX0_distance 13 = .ok (.bipush 8, 2) := by decide +kernel
theorem dX0_distance_15 : decode cX0_distance 15 = .ok (.irem, 1) := by decide +kernel
theorem dX0_distance_16 : decode cX0_distance 16 = .ok (.iload_n 1, 1) := by decide +kernel
theorem dX0_distance_17 : decode cX0_distance 17 = .ok (.iconst 4, 1) := by decide +kernel
theorem dX0_distance_18 : decode cX0_distance 18 = .ok (.idiv, 1) := by decide +kernel
theorem dX0_distance_19 : decode cX0_distance 19 = .ok (.bipush 8, 2) := by decide +kernel
theorem dX0_distance_21 : decode cX0_distance 21 = .ok (.irem, 1) := by decide +kernel
theorem dX0_distance_22 : decode cX0_distance 22 = .ok (.isub, 1) := by decide +kernel
theorem dX0_distance_23 : decode cX0_distance 23 = .ok (.istore_n 3, 1) := by decide +kernel
theorem dX0_distance_24 : decode cX0_distance 24 = .ok (.iload_n 0, 1) := by decide +kernel
theorem dX0_distance_25 : decode cX0_distance 25 = .ok (.iconst 4, 1) := by decide +kernel
theorem dX0_distance_26 : decode cX0_distance 26 = .ok (.irem, 1) := by decide +kernel
theorem dX0_distance_27 : decode cX0_distance 27 = .ok (.iload_n 1, 1) := by decide +kernel
theorem dX0_distance_28 : decode cX0_distance 28 = .ok (.iconst 4, 1) := by decide +kernel
theorem dX0_distance_29 : decode cX0_distance 29 = .ok (.irem, 1) := by decide +kernel
theorem dX0_distance_30 : decode cX0_distance 30 = .ok (.isub, 1) := by decide +kernel
theorem dX0_distance_31 : decode cX0_distance 31 = .ok (.istore 4, 2) := by decide +kernel
theorem dX0_distance_33 : decode cX0_distance 33 = .ok (.iload_n 2, 1) := by decide +kernel
theorem dX0_distance_34 : decode cX0_distance 34 = .ok (.invokestatic 55, 3) := by decide +kernel
theorem dX0_distance_37 : decode cX0_distance 37 = .ok (.iload_n 3, 1) := by decide +kernel
theorem dX0_distance_38 : decode cX0_distance 38 = .ok (.invokestatic 55, 3) := by decide +kernel
theorem dX0_distance_41 : decode cX0_distance 41 = .ok (.iadd, 1) := by decide +kernel
theorem dX0_distance_42 : decode cX0_distance 42 = .ok (.iload 4, 2) := by decide +kernel
theorem dX0_distance_44 : decode cX0_distance 44 = .ok (.invokestatic 55, 3) := by decide +kernel
theorem dX0_distance_47 : decode cX0_distance 47 = .ok (.iadd, 1) := by decide +kernel
theorem dX0_distance_48 : decode cX0_distance 48 = .ok (.ireturn, 1) := by decide +kernel
theorem dX1_init_0 : decode cX1_init 0 = .ok (.aload_n 0, 1) := by decide +kernel
theorem dX1_init_1 : decode cX1_init 1 = .ok (.invokespecial 3, 3) := by decide +kernel
theorem dX1_init_4 : decode cX1_init 4 = .ok (.aload_n 0, 1) := by decide +kernel
theorem dX1_init_5 : decode cX1_init 5 = .ok (.new 9, 3) := by decide +kernel
theorem dX1_init_8 : decode cX1_init 8 = .ok (.dup, 1) := by decide +kernel
theorem dX1_init_9 : decode cX1_init 9 = .ok (.invokespecial 11, 3) := by decide +kernel
theorem dX1_init_12 : decode cX1_init 12 = .ok (.putfield 12, 3) := by decide +kernel
theorem dX1_init_15 : decode cX1_init 15 = .ok (.aload_n 0, 1) := by decide +kernel
theorem dX1_init_16 : decode cX1_init 16 = .ok (.bipush 21, 2) := by decide +kernel
theorem dX1_init_18 : decode cX1_init 18 = .ok (.newarray .int, 2) := by decide +kernel
theorem dX1_init_20 : decode cX1_init 20 = .ok (.putfield 18, 3) := by decide +kernel
theorem dX1_init_23 : decode cX1_init 23 = .ok (.aload_n 0, 1) := by decide +kernel
theorem dX1_init_24 : decode cX1_init 24 = .ok (.bipush 21, 2) := by decide +kernel
theorem dX1_init_26 : decode cX1_init 26 = .ok (.newarray .int, 2) := by decide +kernel
theorem dX1_init_28 : decode cX1_init 28 = .ok (.putfield 22, 3) := by decide +kernel
theorem dX1_init_31 : decode cX1_init 31 = .ok (.aload_n 0, 1) := by decide +kernel
theorem dX1_init_32 : decode cX1_init 32 = .ok (.bipush 8, 2) := by decide +kernel
theorem dX1_init_34 : decode cX1_init 34 = .ok (.newarray .int, 2) := by decide +kernel
theorem dX1_init_36 : decode cX1_init 36 = .ok (.putfield 25, 3) := by decide +kernel
theorem dX1_init_39 : decode cX1_init 39 = .ok (.return_, 1) := by decide +kernel
theorem dX1_setPapers_0 : decode cX1_setPapers 0 = .ok (.aload_n 0, 1) := by decide +kernel
theorem dX1_setPapers_1 : decode cX1_setPapers 1 = .ok (.getfield 25, 3) := by decide +kernel
theorem dX1_setPapers_4 : decode cX1_setPapers 4 = .ok (.iconst 0, 1) := by decide +kernel
theorem dX1_setPapers_5 : decode cX1_setPapers 5 = .ok (.iload_n 1, 1) := by decide +kernel
theorem dX1_setPapers_6 : decode cX1_setPapers 6 = .ok (.iastore, 1) := by decide +kernel
theorem dX1_setPapers_7 : decode cX1_setPapers 7 = .ok (.aload_n 0, 1) := by decide +kernel
theorem dX1_setPapers_8 : decode cX1_setPapers 8 = .ok (.getfield 25, 3) := by decide +kernel
theorem dX1_setPapers_11 : decode cX1_setPapers 11 = .ok (.iconst 1, 1) := by decide +kernel
theorem dX1_setPapers_12 : decode cX1_setPapers 12 = .ok (.iload_n 2, 1) := by decide +kernel
theorem dX1_setPapers_13 : decode cX1_setPapers 13 = .ok (.iastore, 1) := by decide +kernel
theorem dX1_setPapers_14 : decode cX1_setPapers 14 = .ok (.aload_n 0, 1) := by decide +kernel
theorem dX1_setPapers_15 : decode cX1_setPapers 15 = .ok (.getfield 25, 3) := by decide +kernel
theorem dX1_setPapers_18 : decode cX1_setPapers 18 = .ok (.iconst 2, 1) := by decide +kernel
theorem dX1_setPapers_19 : decode cX1_setPapers 19 = .ok (.iload_n 3, 1) := by decide +kernel
theorem dX1_setPapers_20 : decode cX1_setPapers 20 = .ok (.iastore, 1) := by decide +kernel
theorem dX1_setPapers_21 : decode cX1_setPapers 21 = .ok (.aload_n 0, 1) := by decide +kernel
theorem dX1_setPapers_22 : decode cX1_setPapers 22 = .ok (.getfield 25, 3) := by decide +kernel
theorem dX1_setPapers_25 : decode cX1_setPapers 25 = .ok (.iconst 3, 1) := by decide +kernel
theorem dX1_setPapers_26 : decode cX1_setPapers 26 = .ok (.iload 4, 2) := by decide +kernel
theorem dX1_setPapers_28 : decode cX1_setPapers 28 = .ok (.iastore, 1) := by decide +kernel
theorem dX1_setPapers_29 : decode cX1_setPapers 29 = .ok (.return_, 1) := by decide +kernel
theorem dX1_setVoyage_0 : decode cX1_setVoyage 0 = .ok (.aload_n 0, 1) := by decide +kernel
theorem dX1_setVoyage_1 : decode cX1_setVoyage 1 = .ok (.getfield 25, 3) := by decide +kernel
theorem dX1_setVoyage_4 : decode cX1_setVoyage 4 = .ok (.iconst 4, 1) := by decide +kernel
theorem dX1_setVoyage_5 : decode cX1_setVoyage 5 = .ok (.iload_n 1, 1) := by decide +kernel
theorem dX1_setVoyage_6 : decode cX1_setVoyage 6 = .ok (.iastore, 1) := by decide +kernel
theorem dX1_setVoyage_7 : decode cX1_setVoyage 7 = .ok (.aload_n 0, 1) := by decide +kernel
theorem dX1_setVoyage_8 : decode cX1_setVoyage 8 = .ok (.getfield 25, 3) := by decide +kernel
theorem dX1_setVoyage_11 : decode cX1_setVoyage 11 = .ok (.iconst 5, 1) := by decide +kernel
theorem dX1_setVoyage_12 : decode cX1_setVoyage 12 = .ok (.iload_n 2, 1) := by decide +kernel
theorem dX1_setVoyage_13 : decode cX1_setVoyage 13 = .ok (.iastore, 1) := by decide +kernel
theorem dX1_setVoyage_14 : decode cX1_setVoyage 14 = .ok (.aload_n 0, 1) := by decide +kernel
theorem dX1_setVoyage_15 : decode cX1_setVoyage 15 = .ok (.getfield 25, 3) := by decide +kernel
theorem dX1_setVoyage_18 : decode cX1_setVoyage 18 = .ok (.bipush 6, 2) := by decide +kernel
theorem dX1_setVoyage_20 : decode cX1_setVoyage 20 = .ok (.iload_n 3, 1) := by decide +kernel
theorem dX1_setVoyage_21 : decode cX1_setVoyage 21 = .ok (.iastore, 1) := by decide +kernel
theorem dX1_setVoyage_22 : decode cX1_setVoyage 22 = .ok (.aload_n 0, 1) := by decide +kernel
theorem dX1_setVoyage_23 : decode cX1_setVoyage 23 = .ok (.getfield 25, 3) := by decide +kernel
theorem dX1_setVoyage_26 : decode cX1_setVoyage 26 = .ok (.bipush 7, 2) := by decide +kernel
theorem dX1_setVoyage_28 : decode cX1_setVoyage 28 = .ok (.iload 4, 2) := by decide +kernel
theorem dX1_setVoyage_30 : decode cX1_setVoyage 30 = .ok (.iastore, 1) := by decide +kernel
theorem dX1_setVoyage_31 : decode cX1_setVoyage 31 = .ok (.return_, 1) := by decide +kernel
theorem dX1_someLine_0 : decode cX1_someLine 0 = .ok (.iconst 0, 1) := by decide +kernel
theorem dX1_someLine_1 : decode cX1_someLine 1 = .ok (.istore_n 3, 1) := by decide +kernel
theorem dX1_someLine_2 : decode cX1_someLine 2 = .ok (.iload_n 3, 1) := by decide +kernel
theorem dX1_someLine_3 : decode cX1_someLine 3 = .ok (.aload_n 0, 1) := by decide +kernel
theorem dX1_someLine_4 : decode cX1_someLine 4 = .ok (.getfield 12, 3) := by decide +kernel
theorem dX1_someLine_7 : decode cX1_someLine 7 = .ok (.getfield 28, 3) := by decide +kernel
theorem dX1_someLine_10 : decode cX1_someLine 10 = .ok (.if_icmp .ge 50, 3) := by decide +kernel
theorem dX1_someLine_13 : decode cX1_someLine 13 = .ok (.aload_n 0, 1) := by decide +kernel
theorem dX1_someLine_14 : decode cX1_someLine 14 = .ok (.getfield 12, 3) := by decide +kernel
theorem dX1_someLine_17 : decode cX1_someLine 17 = .ok (.iload_n 3, 1) := by decide +kernel
theorem dX1_someLine_18 : decode cX1_someLine 18 = .ok (.iload_n 1, 1) := by decide +kernel
theorem dX1_someLine_19 : decode cX1_someLine 19 = .ok (.invokevirtual 32, 3) := by decide +kernel
theorem dX1_someLine_22 : decode cX1_someLine 22 = .ok (.ifCond .eq 32, 3) := by decide +kernel
theorem dX1_someLine_25 : decode cX1_someLine 25 = .ok (.aload_n 0, 1) := by decide +kernel
theorem dX1_someLine_26 : decode cX1_someLine 26 = .ok (.getfield 12, 3) := by decide +kernel
theorem dX1_someLine_29 : decode cX1_someLine 29 = .ok (.iload_n 3, 1) := by decide +kernel
theorem dX1_someLine_30 : decode cX1_someLine 30 = .ok (.iload_n 2, 1) := by decide +kernel
theorem dX1_someLine_31 : decode cX1_someLine 31 = .ok (.invokevirtual 36, 3) := by decide +kernel
theorem dX1_someLine_34 : decode cX1_someLine 34 = .ok (.ifCond .eq 20, 3) := by decide +kernel
theorem dX1_someLine_37 : decode cX1_someLine 37 = .ok (.aload_n 0, 1) := by decide +kernel
theorem dX1_someLine_38 : decode cX1_someLine 38 = .ok (.getfield 12, 3) := by decide +kernel
theorem dX1_someLine_41 : decode cX1_someLine 41 = .ok (.iload_n 3, 1) := by decide +kernel
theorem dX1_someLine_42 : decode cX1_someLine 42 = .ok (.aload_n 0, 1) := by decide +kernel
theorem dX1_someLine_43 : decode cX1_someLine 43 = .ok (.getfield 25, 3) := by decide +kernel
theorem dX1_someLine_46 : decode cX1_someLine 46 = .ok (.invokevirtual 39, 3) := by decide +kernel
theorem dX1_someLine_49 : decode cX1_someLine 49 = .ok (.ifCond .eq 5, 3) := by decide +kernel
theorem dX1_someLine_52 : decode cX1_someLine 52 = .ok (.iconst 1, 1) := by decide +kernel
theorem dX1_someLine_53 : decode cX1_someLine 53 = .ok (.ireturn, 1) := by decide +kernel
theorem dX1_someLine_54 : decode cX1_someLine 54 = .ok (.iinc 3 1, 3) := by decide +kernel
theorem dX1_someLine_57 : decode cX1_someLine 57 = .ok (.goto (-55), 3) := by decide +kernel
theorem dX1_someLine_60 : decode cX1_someLine 60 = .ok (.iconst 0, 1) := by decide +kernel
theorem dX1_someLine_61 : decode cX1_someLine 61 = .ok (.ireturn, 1) := by decide +kernel
theorem dX1_findWays_0 : decode cX1_findWays 0 = .ok (.aload_n 0, 1) := by decide +kernel
theorem dX1_findWays_1 : decode cX1_findWays 1 = .ok (.getfield 43, 3) := by decide +kernel
theorem dX1_findWays_4 : decode cX1_findWays 4 = .ok (.ifCond .eq 4, 3) := by decide +kernel
theorem dX1_findWays_7 : decode cX1_findWays 7 = .ok (.return_, 1) := by decide +kernel
theorem dX1_findWays_8 : decode cX1_findWays 8 = .ok (.aload_n 0, 1) := by decide +kernel
theorem dX1_findWays_9 : decode cX1_findWays 9 = .ok (.iconst 1, 1) := by decide +kernel
theorem dX1_findWays_10 : decode cX1_findWays 10 = .ok (.putfield 43, 3) := by decide +kernel
theorem dX1_findWays_13 : decode cX1_findWays 13 = .ok (.aload_n 0, 1) := by decide +kernel
theorem dX1_findWays_14 : decode cX1_findWays 14 = .ok (.iconst 0, 1) := by decide +kernel
theorem dX1_findWays_15 : decode cX1_findWays 15 = .ok (.iconst 0, 1) := by decide +kernel
theorem dX1_findWays_16 : decode cX1_findWays 16 = .ok (.iconst 0, 1) := by decide +kernel
theorem dX1_findWays_17 : decode cX1_findWays 17 = .ok (.iconst 1, 1) := by decide +kernel
theorem dX1_findWays_18 : decode cX1_findWays 18 = .ok (.invokevirtual 47, 3) := by decide +kernel
theorem dX1_findWays_21 : decode cX1_findWays 21 = .ok (.iconst 0, 1) := by decide +kernel
theorem dX1_findWays_22 : decode cX1_findWays 22 = .ok (.istore_n 1, 1) := by decide +kernel
theorem dX1_findWays_23 : decode cX1_findWays 23 = .ok (.iload_n 1, 1) := by decide +kernel
theorem dX1_findWays_24 : decode cX1_findWays 24 = .ok (.bipush 21, 2) := by decide +kernel
theorem dX1_findWays_26 : decode cX1_findWays 26 = .ok (.if_icmp .ge 43, 3) := by decide +kernel
theorem dX1_findWays_29 : decode cX1_findWays 29 = .ok (.aload_n 0, 1) := by decide +kernel
theorem dX1_findWays_30 : decode cX1_findWays 30 = .ok (.getfield 18, 3) := by decide +kernel
theorem dX1_findWays_33 : decode cX1_findWays 33 = .ok (.iload_n 1, 1) := by decide +kernel
theorem dX1_findWays_34 : decode cX1_findWays 34 = .ok (.iconst 0, 1) := by decide +kernel
theorem dX1_findWays_35 : decode cX1_findWays 35 = .ok (.iastore, 1) := by decide +kernel
theorem dX1_findWays_36 : decode cX1_findWays 36 = .ok (.aload_n 0, 1) := by decide +kernel
theorem dX1_findWays_37 : decode cX1_findWays 37 = .ok (.getfield 22, 3) := by decide +kernel
theorem dX1_findWays_40 : decode cX1_findWays 40 = .ok (.iload_n 1, 1) := by decide +kernel
theorem dX1_findWays_41 : decode cX1_findWays 41 = .ok (.iconst (-1), 1) := by decide +kernel
theorem dX1_findWays_42 : decode cX1_findWays 42 = .ok (.iastore, 1) := by decide +kernel
theorem dX1_findWays_43 : decode cX1_findWays 43 = .ok (.iconst 0, 1) := by decide +kernel
theorem dX1_findWays_44 : decode cX1_findWays 44 = .ok (.istore_n 2, 1) := by decide +kernel
theorem dX1_findWays_45 : decode cX1_findWays 45 = .ok (.iload_n 2, 1) := by decide +kernel
theorem dX1_findWays_46 : decode cX1_findWays 46 = .ok (.bipush 21, 2) := by decide +kernel
theorem dX1_findWays_48 : decode cX1_findWays 48 = .ok (.if_icmp .ge 15, 3) := by decide +kernel
theorem dX1_findWays_51 : decode cX1_findWays 51 = .ok (.aload_n 0, 1) := by decide +kernel
theorem dX1_findWays_52 : decode cX1_findWays 52 = .ok (.iload_n 2, 1) := by decide +kernel
theorem dX1_findWays_53 : decode cX1_findWays 53 = .ok (.iload_n 1, 1) := by decide +kernel
theorem dX1_findWays_54 : decode cX1_findWays 54 = .ok (.invokevirtual 51, 3) := by decide +kernel
theorem dX1_findWays_57 : decode cX1_findWays 57 = .ok (.iinc 2 1, 3) := by decide +kernel
theorem dX1_findWays_60 : decode cX1_findWays 60 = .ok (.goto (-15), 3) := by decide +kernel
theorem dX1_findWays_63 : decode cX1_findWays 63 = .ok (.iinc 1 1, 3) := by decide +kernel
theorem dX1_findWays_66 : decode cX1_findWays 66 = .ok (.goto (-43), 3) := by decide +kernel
theorem dX1_findWays_69 : decode cX1_findWays 69 = .ok (.return_, 1) := by decide +kernel
theorem dX1_findWaysOf_0 : decode cX1_findWaysOf 0 = .ok (.iconst 0, 1) := by decide +kernel
theorem dX1_findWaysOf_1 : decode cX1_findWaysOf 1 = .ok (.istore_n 3, 1) := by decide +kernel
theorem dX1_findWaysOf_2 : decode cX1_findWaysOf 2 = .ok (.iload_n 3, 1) := by decide +kernel
theorem dX1_findWaysOf_3 : decode cX1_findWaysOf 3 = .ok (.bipush 10, 2) := by decide +kernel
theorem dX1_findWaysOf_5 : decode cX1_findWaysOf 5 = .ok (.if_icmp .ge 96, 3) := by decide +kernel
theorem dX1_findWaysOf_8 : decode cX1_findWaysOf 8 = .ok (.iconst 0, 1) := by decide +kernel
theorem dX1_findWaysOf_9 : decode cX1_findWaysOf 9 = .ok (.istore 4, 2) := by decide +kernel
theorem dX1_findWaysOf_11 : decode cX1_findWaysOf 11 = .ok (.iload 4, 2) := by decide +kernel
theorem dX1_findWaysOf_13 : decode cX1_findWaysOf 13 = .ok (.bipush 10, 2) := by decide +kernel
theorem dX1_findWaysOf_15 : decode cX1_findWaysOf 15 = .ok (.if_icmp .ge 80, 3) := by decide +kernel
theorem dX1_findWaysOf_18 : decode cX1_findWaysOf 18 = .ok (.aload_n 0, 1) := by decide +kernel
theorem dX1_findWaysOf_19 : decode cX1_findWaysOf 19 = .ok (.iload_n 1, 1) := by decide +kernel
theorem dX1_findWaysOf_20 : decode cX1_findWaysOf 20 = .ok (.iload_n 2, 1) := by decide +kernel
theorem dX1_findWaysOf_21 : decode cX1_findWaysOf 21 = .ok (.iload_n 3, 1) := by decide +kernel
theorem dX1_findWaysOf_22 : decode cX1_findWaysOf 22 = .ok (.iload 4, 2) := by decide +kernel
theorem dX1_findWaysOf_24 : decode cX1_findWaysOf 24 = .ok (.invokevirtual 55, 3) := by decide +kernel
theorem dX1_findWaysOf_27 : decode cX1_findWaysOf 27 = .ok (.aload_n 0, 1) := by decide +kernel
theorem dX1_findWaysOf_28 : decode cX1_findWaysOf 28 = .ok (.iconst 0, 1) := by decide +kernel
theorem dX1_findWaysOf_29 : decode cX1_findWaysOf 29 = .ok (.iconst (-1), 1) := by decide +kernel
theorem dX1_findWaysOf_30 : decode cX1_findWaysOf 30 = .ok (.invokevirtual 58, 3) := by decide +kernel
theorem dX1_findWaysOf_33 : decode cX1_findWaysOf 33 = .ok (.ifCond .eq 56, 3) := by decide +kernel
theorem dX1_findWaysOf_36 : decode cX1_findWaysOf 36 = .ok (.aload_n 0, 1) := by decide +kernel
theorem dX1_findWaysOf_37 : decode cX1_findWaysOf 37 = .ok (.iconst 1, 1) := by decide +kernel
theorem dX1_findWaysOf_38 : decode cX1_findWaysOf 38 = .ok (.iconst (-1), 1) := by decide +kernel
theorem dX1_findWaysOf_39 : decode cX1_findWaysOf 39 = .ok (.invokevirtual 58, 3) := by decide +kernel
theorem dX1_findWaysOf_42 : decode cX1_findWaysOf 42 = .ok (.ifCond .ne 47, 3) := by decide +kernel
theorem dX1_findWaysOf_45 : decode cX1_findWaysOf 45 = .ok (.aload_n 0, 1) := by decide +kernel
theorem dX1_findWaysOf_46 : decode cX1_findWaysOf 46 = .ok (.getfield 18, 3) := by decide +kernel
theorem dX1_findWaysOf_49 : decode cX1_findWaysOf 49 = .ok (.iload_n 2, 1) := by decide +kernel
theorem dX1_findWaysOf_50 : decode cX1_findWaysOf 50 = .ok (.dup2, 1) := by decide +kernel
theorem dX1_findWaysOf_51 : decode cX1_findWaysOf 51 = .ok (.iaload, 1) := by decide +kernel
theorem dX1_findWaysOf_52 : decode cX1_findWaysOf 52 = .ok (.iconst 1, 1) := by decide +kernel
theorem dX1_findWaysOf_53 : decode cX1_findWaysOf 53 = .ok (.iadd, 1) := by decide +kernel
theorem dX1_findWaysOf_54 : decode cX1_findWaysOf 54 = .ok (.iastore, 1) := by decide +kernel
theorem dX1_findWaysOf_55 : decode cX1_findWaysOf 55 = .ok (.aload_n 0, 1) := by decide +kernel
theorem dX1_findWaysOf_56 : decode cX1_findWaysOf 56 = .ok (.getfield 22, 3) := by decide +kernel
theorem dX1_findWaysOf_59 : decode cX1_findWaysOf 59 = .ok (.iload_n 2, 1) := by decide +kernel
theorem dX1_findWaysOf_60 : decode cX1_findWaysOf 60 = .ok (.iaload, 1) := by decide +kernel
theorem dX1_findWaysOf_61 : decode cX1_findWaysOf 61 = .ok (.iconst (-1), 1) := by decide +kernel
theorem dX1_findWaysOf_62 : decode cX1_findWaysOf 62 = .ok (.if_icmp .ne 27, 3) := by decide +kernel
theorem dX1_findWaysOf_65 : decode cX1_findWaysOf 65 = .ok (.aload_n 0, 1) := by decide +kernel
theorem dX1_findWaysOf_66 : decode cX1_findWaysOf 66 = .ok (.getfield 22, 3) := by decide +kernel
theorem dX1_findWaysOf_69 : decode cX1_findWaysOf 69 = .ok (.iload_n 2, 1) := by decide +kernel
theorem dX1_findWaysOf_70 : decode cX1_findWaysOf 70 = .ok (.ldc 61, 2) := by decide +kernel
theorem dX1_findWaysOf_72 : decode cX1_findWaysOf 72 = .ok (.iload_n 1, 1) := by decide +kernel
theorem dX1_findWaysOf_73 : decode cX1_findWaysOf 73 = .ok (.imul, 1) := by decide +kernel
theorem dX1_findWaysOf_74 : decode cX1_findWaysOf 74 = .ok (.sipush 10000, 3) := by decide +kernel
theorem dX1_findWaysOf_77 : decode cX1_findWaysOf 77 = .ok (.iload_n 2, 1) := by decide +kernel
theorem dX1_findWaysOf_78 : decode cX1_findWaysOf 78 = .ok (.imul, 1) := by decide +kernel
theorem dX1_findWaysOf_79 : decode cX1_findWaysOf 79 = .ok (.iadd, 1) := by decide +kernel
theorem dX1_findWaysOf_80 : decode cX1_findWaysOf 80 = .ok (.bipush 100, 2) := by decide +kernel
theorem dX1_findWaysOf_82 : decode cX1_findWaysOf 82 = .ok (.iload_n 3, 1) := by decide +kernel
theorem dX1_findWaysOf_83 : decode cX1_findWaysOf 83 = .ok (.imul, 1) := by decide +kernel
theorem dX1_findWaysOf_84 : decode cX1_findWaysOf 84 = .ok (.iadd, 1) := by decide +kernel
theorem dX1_findWaysOf_85 : decode cX1_findWaysOf 85 = .ok (.iload 4, 2) := by decide +kernel
theorem dX1_findWaysOf_87 : decode cX1_findWaysOf 87 = .ok (.iadd, 1) := by decide +kernel
theorem dX1_findWaysOf_88 : decode cX1_findWaysOf 88 = .ok (.iastore, 1) := by decide +kernel
theorem dX1_findWaysOf_89 : decode cX1_findWaysOf 89 = .ok (.iinc 4 1, 3) := by decide +kernel
theorem dX1_findWaysOf_92 : decode cX1_findWaysOf 92 = .ok (.goto (-81), 3) := by decide +kernel
theorem dX1_findWaysOf_95 : decode cX1_findWaysOf 95 = .ok (.iinc 3 1, 3) := by decide +kernel
theorem dX1_findWaysOf_98 : decode cX1_findWaysOf 98 = .ok (.goto (-96), 3) := by decide +kernel
theorem dX1_findWaysOf_101 : decode cX1_findWaysOf 101 = .ok (.return_, 1) := by decide +kernel
theorem dX1_waysAbove_0 : decode cX1_waysAbove 0 = .ok (.iconst 0, 1) := by decide +kernel
theorem dX1_waysAbove_1 : decode cX1_waysAbove 1 = .ok (.istore_n 2, 1) := by decide +kernel
theorem dX1_waysAbove_2 : decode cX1_waysAbove 2 = .ok (.iconst 0, 1) := by decide +kernel
theorem dX1_waysAbove_3 : decode cX1_waysAbove 3 = .ok (.iload_n 1, 1) := by decide +kernel
theorem dX1_waysAbove_4 : decode cX1_waysAbove 4 = .ok (.iconst 1, 1) := by decide +kernel
theorem dX1_waysAbove_5 : decode cX1_waysAbove 5 = .ok (.iadd, 1) := by decide +kernel
theorem dX1_waysAbove_6 : decode cX1_waysAbove 6 = .ok (.invokestatic 62, 3) := by decide +kernel
theorem dX1_waysAbove_9 : decode cX1_waysAbove 9 = .ok (.istore_n 3, 1) := by decide +kernel
theorem dX1_waysAbove_10 : decode cX1_waysAbove 10 = .ok (.iload_n 3, 1) := by decide +kernel
theorem dX1_waysAbove_11 : decode cX1_waysAbove 11 = .ok (.bipush 21, 2) := by decide +kernel
theorem dX1_waysAbove_13 : decode cX1_waysAbove 13 = .ok (.if_icmp .ge 18, 3) := by decide +kernel
theorem dX1_waysAbove_16 : decode cX1_waysAbove 16 = .ok (.iload_n 2, 1) := by decide +kernel
theorem dX1_waysAbove_17 : decode cX1_waysAbove 17 = .ok (.aload_n 0, 1) := by decide +kernel
theorem dX1_waysAbove_18 : decode cX1_waysAbove 18 = .ok (.getfield 18, 3) := by decide +kernel
theorem dX1_waysAbove_21 : decode cX1_waysAbove 21 = .ok (.iload_n 3, 1) := by decide +kernel
theorem dX1_waysAbove_22 : decode cX1_waysAbove 22 = .ok (.iaload, 1) := by decide +kernel
theorem dX1_waysAbove_23 : decode cX1_waysAbove 23 = .ok (.iadd, 1) := by decide +kernel
theorem dX1_waysAbove_24 : decode cX1_waysAbove 24 = .ok (.istore_n 2, 1) := by decide +kernel
theorem dX1_waysAbove_25 : decode cX1_waysAbove 25 = .ok (.iinc 3 1, 3) := by decide +kernel
theorem dX1_waysAbove_28 : decode cX1_waysAbove 28 = .ok (.goto (-18), 3) := by decide +kernel
theorem dX1_waysAbove_31 : decode cX1_waysAbove 31 = .ok (.iload_n 2, 1) := by decide +kernel
theorem dX1_waysAbove_32 : decode cX1_waysAbove 32 = .ok (.ireturn, 1) := by decide +kernel
theorem dX1_firstAbove_0 : decode cX1_firstAbove 0 = .ok (.iconst (-1), 1) := by decide +kernel
theorem dX1_firstAbove_1 : decode cX1_firstAbove 1 = .ok (.istore_n 2, 1) := by decide +kernel
theorem dX1_firstAbove_2 : decode cX1_firstAbove 2 = .ok (.iconst 0, 1) := by decide +kernel
theorem dX1_firstAbove_3 : decode cX1_firstAbove 3 = .ok (.iload_n 1, 1) := by decide +kernel
theorem dX1_firstAbove_4 : decode cX1_firstAbove 4 = .ok (.iconst 1, 1) := by decide +kernel
theorem dX1_firstAbove_5 : decode cX1_firstAbove 5 = .ok (.iadd, 1) := by decide +kernel
theorem dX1_firstAbove_6 : decode cX1_firstAbove 6 = .ok (.invokestatic 62, 3) := by decide +kernel
theorem dX1_firstAbove_9 : decode cX1_firstAbove 9 = .ok (.istore_n 3, 1) := by decide +kernel
theorem dX1_firstAbove_10 : decode cX1_firstAbove 10 = .ok (.iload_n 3, 1) := by decide +kernel
theorem dX1_firstAbove_11 : decode cX1_firstAbove 11 = .ok (.bipush 21, 2) := by decide +kernel
theorem dX1_firstAbove_13 : decode cX1_firstAbove 13 = .ok (.if_icmp .ge 41, 3) := by decide +kernel
theorem dX1_firstAbove_16 : decode cX1_firstAbove 16 = .ok (.aload_n 0, 1) := by decide +kernel
theorem dX1_firstAbove_17 : decode cX1_firstAbove 17 = .ok (.getfield 22, 3) := by decide +kernel
theorem dX1_firstAbove_20 : decode cX1_firstAbove 20 = .ok (.iload_n 3, 1) := by decide +kernel
theorem dX1_firstAbove_21 : decode cX1_firstAbove 21 = .ok (.iaload, 1) := by decide +kernel
theorem dX1_firstAbove_22 : decode cX1_firstAbove 22 = .ok (.iconst (-1), 1) := by decide +kernel
theorem dX1_firstAbove_23 : decode cX1_firstAbove 23 = .ok (.if_icmp .eq 25, 3) := by decide +kernel
theorem dX1_firstAbove_26 : decode cX1_firstAbove 26 = .ok (.iload_n 2, 1) := by decide +kernel
theorem dX1_firstAbove_27 : decode cX1_firstAbove 27 = .ok (.iconst (-1), 1) := by decide +kernel
theorem dX1_firstAbove_28 : decode cX1_firstAbove 28 = .ok (.if_icmp .eq 13, 3) := by decide +kernel
theorem dX1_firstAbove_31 : decode cX1_firstAbove 31 = .ok (.aload_n 0, 1) := by decide +kernel
theorem dX1_firstAbove_32 : decode cX1_firstAbove 32 = .ok (.getfield 22, 3) := by decide +kernel
theorem dX1_firstAbove_35 : decode cX1_firstAbove 35 = .ok (.iload_n 3, 1) := by decide +kernel
theorem dX1_firstAbove_36 : decode cX1_firstAbove 36 = .ok (.iaload, 1) := by decide +kernel
theorem dX1_firstAbove_37 : decode cX1_firstAbove 37 = .ok (.iload_n 2, 1) := by decide +kernel
theorem dX1_firstAbove_38 : decode cX1_firstAbove 38 = .ok (.if_icmp .ge 10, 3) := by decide +kernel
theorem dX1_firstAbove_41 : decode cX1_firstAbove 41 = .ok (.aload_n 0, 1) := by decide +kernel
theorem dX1_firstAbove_42 : decode cX1_firstAbove 42 = .ok (.getfield 22, 3) := by decide +kernel
theorem dX1_firstAbove_45 : decode cX1_firstAbove 45 = .ok (.iload_n 3, 1) := by decide +kernel
theorem dX1_firstAbove_46 : decode cX1_firstAbove 46 = .ok (.iaload, 1) := by decide +kernel
theorem dX1_firstAbove_47 : decode cX1_firstAbove 47 = .ok (.istore_n 2, 1) := by decide +kernel
theorem dX1_firstAbove_48 : decode cX1_firstAbove 48 = .ok (.iinc 3 1, 3) := by decide +kernel
theorem dX1_firstAbove_51 : decode cX1_firstAbove 51 = .ok (.goto (-41), 3) := by decide +kernel
theorem dX1_firstAbove_54 : decode cX1_firstAbove 54 = .ok (.iload_n 2, 1) := by decide +kernel
theorem dX1_firstAbove_55 : decode cX1_firstAbove 55 = .ok (.ireturn, 1) := by decide +kernel
theorem dX2_init_0 : decode cX2_init 0 = .ok (.aload_n 0, 1) := by decide +kernel
theorem dX2_init_1 : decode cX2_init 1 = .ok (.invokespecial 1, 3) := by decide +kernel
theorem dX2_init_4 : decode cX2_init 4 = .ok (.aload_n 0, 1) := by decide +kernel
theorem dX2_init_5 : decode cX2_init 5 = .ok (.new 7, 3) := by decide +kernel
theorem dX2_init_8 : decode cX2_init 8 = .ok (.dup, 1) := by decide +kernel
theorem dX2_init_9 : decode cX2_init 9 = .ok (.invokespecial 9, 3) := by decide +kernel
theorem dX2_init_12 : decode cX2_init 12 = .ok (.putfield 10, 3) := by decide +kernel
theorem dX2_init_15 : decode cX2_init 15 = .ok (.aload_n 0, 1) := by decide +kernel
theorem dX2_init_16 : decode cX2_init 16 = .ok (.bipush 9, 2) := by decide +kernel
theorem dX2_init_18 : decode cX2_init 18 = .ok (.newarray .int, 2) := by decide +kernel
theorem dX2_init_20 : decode cX2_init 20 = .ok (.putfield 16, 3) := by decide +kernel
theorem dX2_init_23 : decode cX2_init 23 = .ok (.return_, 1) := by decide +kernel
theorem dX2_setTime_0 : decode cX2_setTime 0 = .ok (.aload_n 0, 1) := by decide +kernel
theorem dX2_setTime_1 : decode cX2_setTime 1 = .ok (.getfield 16, 3) := by decide +kernel
theorem dX2_setTime_4 : decode cX2_setTime 4 = .ok (.iconst 4, 1) := by decide +kernel
theorem dX2_setTime_5 : decode cX2_setTime 5 = .ok (.aload_n 0, 1) := by decide +kernel
theorem dX2_setTime_6 : decode cX2_setTime 6 = .ok (.getfield 20, 3) := by decide +kernel
theorem dX2_setTime_9 : decode cX2_setTime 9 = .ok (.iastore, 1) := by decide +kernel
theorem dX2_setTime_10 : decode cX2_setTime 10 = .ok (.aload_n 0, 1) := by decide +kernel
theorem dX2_setTime_11 : decode cX2_setTime 11 = .ok (.getfield 16, 3) := by decide +kernel
theorem dX2_setTime_14 : decode cX2_setTime 14 = .ok (.iconst 5, 1) := by decide +kernel
theorem dX2_setTime_15 : decode cX2_setTime 15 = .ok (.iload_n 1, 1) := by decide +kernel
theorem dX2_setTime_16 : decode cX2_setTime 16 = .ok (.iastore, 1) := by decide +kernel
theorem dX2_setTime_17 : decode cX2_setTime 17 = .ok (.aload_n 0, 1) := by decide +kernel
theorem dX2_setTime_18 : decode cX2_setTime 18 = .ok (.getfield 16, 3) := by decide +kernel
theorem dX2_setTime_21 : decode cX2_setTime 21 = .ok (.bipush 6, 2) := by decide +kernel
theorem dX2_setTime_23 : decode cX2_setTime 23 = .ok (.iload_n 2, 1) := by decide +kernel
theorem dX2_setTime_24 : decode cX2_setTime 24 = .ok (.iastore, 1) := by decide +kernel
theorem dX2_setTime_25 : decode cX2_setTime 25 = .ok (.return_, 1) := by decide +kernel
theorem dX2_clock_0 : decode cX2_clock 0 = .ok (.aload_n 0, 1) := by decide +kernel
theorem dX2_clock_1 : decode cX2_clock 1 = .ok (.getfield 16, 3) := by decide +kernel
theorem dX2_clock_4 : decode cX2_clock 4 = .ok (.bipush 6, 2) := by decide +kernel
theorem dX2_clock_6 : decode cX2_clock 6 = .ok (.iaload, 1) := by decide +kernel
theorem dX2_clock_7 : decode cX2_clock 7 = .ok (.ireturn, 1) := by decide +kernel
theorem dX2_setCell_0 : decode cX2_setCell 0 = .ok (.aload_n 0, 1) := by decide +kernel
theorem dX2_setCell_1 : decode cX2_setCell 1 = .ok (.getfield 16, 3) := by decide +kernel
theorem dX2_setCell_4 : decode cX2_setCell 4 = .ok (.iconst 0, 1) := by decide +kernel
theorem dX2_setCell_5 : decode cX2_setCell 5 = .ok (.iload_n 1, 1) := by decide +kernel
theorem dX2_setCell_6 : decode cX2_setCell 6 = .ok (.ifCond .le 9, 3) := by decide +kernel
theorem dX2_setCell_9 : decode cX2_setCell 9 = .ok (.iload_n 2, 1) := by decide +kernel
theorem dX2_setCell_10 : decode cX2_setCell 10 = .ok (.iload_n 1, 1) := by decide +kernel
theorem dX2_setCell_11 : decode cX2_setCell 11 = .ok (.idiv, 1) := by decide +kernel
theorem dX2_setCell_12 : decode cX2_setCell 12 = .ok (.goto 4, 3) := by decide +kernel
theorem dX2_setCell_15 : decode cX2_setCell 15 = .ok (.iconst 0, 1) := by decide +kernel
theorem dX2_setCell_16 : decode cX2_setCell 16 = .ok (.iastore, 1) := by decide +kernel
theorem dX2_setCell_17 : decode cX2_setCell 17 = .ok (.aload_n 0, 1) := by decide +kernel
theorem dX2_setCell_18 : decode cX2_setCell 18 = .ok (.getfield 16, 3) := by decide +kernel
theorem dX2_setCell_21 : decode cX2_setCell 21 = .ok (.iconst 1, 1) := by decide +kernel
theorem dX2_setCell_22 : decode cX2_setCell 22 = .ok (.iload_n 2, 1) := by decide +kernel
theorem dX2_setCell_23 : decode cX2_setCell 23 = .ok (.iastore, 1) := by decide +kernel
theorem dX2_setCell_24 : decode cX2_setCell 24 = .ok (.aload_n 0, 1) := by decide +kernel
theorem dX2_setCell_25 : decode cX2_setCell 25 = .ok (.getfield 16, 3) := by decide +kernel
theorem dX2_setCell_28 : decode cX2_setCell 28 = .ok (.iconst 2, 1) := by decide +kernel
theorem dX2_setCell_29 : decode cX2_setCell 29 = .ok (.iload_n 1, 1) := by decide +kernel
theorem dX2_setCell_30 : decode cX2_setCell 30 = .ok (.iastore, 1) := by decide +kernel
theorem dX2_setCell_31 : decode cX2_setCell 31 = .ok (.aload_n 0, 1) := by decide +kernel
theorem dX2_setCell_32 : decode cX2_setCell 32 = .ok (.getfield 16, 3) := by decide +kernel
theorem dX2_setCell_35 : decode cX2_setCell 35 = .ok (.iconst 3, 1) := by decide +kernel
theorem dX2_setCell_36 : decode cX2_setCell 36 = .ok (.iload_n 3, 1) := by decide +kernel
theorem dX2_setCell_37 : decode cX2_setCell 37 = .ok (.iastore, 1) := by decide +kernel
theorem dX2_setCell_38 : decode cX2_setCell 38 = .ok (.aload_n 0, 1) := by decide +kernel
theorem dX2_setCell_39 : decode cX2_setCell 39 = .ok (.getfield 16, 3) := by decide +kernel
theorem dX2_setCell_42 : decode cX2_setCell 42 = .ok (.bipush 7, 2) := by decide +kernel
theorem dX2_setCell_44 : decode cX2_setCell 44 = .ok (.iload 4, 2) := by decide +kernel
theorem dX2_setCell_46 : decode cX2_setCell 46 = .ok (.iastore, 1) := by decide +kernel
theorem dX2_setCell_47 : decode cX2_setCell 47 = .ok (.return_, 1) := by decide +kernel
theorem dX2_setLight_0 : decode cX2_setLight 0 = .ok (.aload_n 0, 1) := by decide +kernel
theorem dX2_setLight_1 : decode cX2_setLight 1 = .ok (.getfield 16, 3) := by decide +kernel
theorem dX2_setLight_4 : decode cX2_setLight 4 = .ok (.bipush 8, 2) := by decide +kernel
theorem dX2_setLight_6 : decode cX2_setLight 6 = .ok (.iload_n 1, 1) := by decide +kernel
theorem dX2_setLight_7 : decode cX2_setLight 7 = .ok (.ifCond .eq 7, 3) := by decide +kernel
theorem dX2_setLight_10 : decode cX2_setLight 10 = .ok (.iconst 1, 1) := by decide +kernel
theorem dX2_setLight_11 : decode cX2_setLight 11 = .ok (.goto 4, 3) := by decide +kernel
theorem dX2_setLight_14 : decode cX2_setLight 14 = .ok (.iconst 0, 1) := by decide +kernel
theorem dX2_setLight_15 : decode cX2_setLight 15 = .ok (.iastore, 1) := by decide +kernel
theorem dX2_setLight_16 : decode cX2_setLight 16 = .ok (.return_, 1) := by decide +kernel
theorem dX2_comesTo_0 : decode cX2_comesTo 0 = .ok (.iconst 0, 1) := by decide +kernel
theorem dX2_comesTo_1 : decode cX2_comesTo 1 = .ok (.istore_n 2, 1) := by decide +kernel
theorem dX2_comesTo_2 : decode cX2_comesTo 2 = .ok (.iload_n 2, 1) := by decide +kernel
theorem dX2_comesTo_3 : decode cX2_comesTo 3 = .ok (.aload_n 0, 1) := by decide +kernel
theorem dX2_comesTo_4 : decode cX2_comesTo 4 = .ok (.getfield 10, 3) := by decide +kernel
theorem dX2_comesTo_7 : decode cX2_comesTo 7 = .ok (.getfield 24, 3) := by decide +kernel
theorem dX2_comesTo_10 : decode cX2_comesTo 10 = .ok (.if_icmp .ge 49, 3) := by decide +kernel
theorem dX2_comesTo_13 : decode cX2_comesTo 13 = .ok (.aload_n 0, 1) := by decide +kernel
theorem dX2_comesTo_14 : decode cX2_comesTo 14 = .ok (.getfield 10, 3) := by decide +kernel
theorem dX2_comesTo_17 : decode cX2_comesTo 17 = .ok (.iload_n 2, 1) := by decide +kernel
theorem dX2_comesTo_18 : decode cX2_comesTo 18 = .ok (.iload_n 1, 1) := by decide +kernel
theorem dX2_comesTo_19 : decode cX2_comesTo 19 = .ok (.invokevirtual 27, 3) := by decide +kernel
theorem dX2_comesTo_22 : decode cX2_comesTo 22 = .ok (.ifCond .eq 31, 3) := by decide +kernel
theorem dX2_comesTo_25 : decode cX2_comesTo 25 = .ok (.aload_n 0, 1) := by decide +kernel
theorem dX2_comesTo_26 : decode cX2_comesTo 26 = .ok (.getfield 10, 3) := by decide +kernel
theorem dX2_comesTo_29 : decode cX2_comesTo 29 = .ok (.iload_n 2, 1) := by decide +kernel
theorem dX2_comesTo_30 : decode cX2_comesTo 30 = .ok (.aload_n 0, 1) := by decide +kernel
theorem dX2_comesTo_31 : decode cX2_comesTo 31 = .ok (.getfield 16, 3) := by decide +kernel
theorem dX2_comesTo_34 : decode cX2_comesTo 34 = .ok (.invokevirtual 31, 3) := by decide +kernel
theorem dX2_comesTo_37 : decode cX2_comesTo 37 = .ok (.ifCond .eq 16, 3) := by decide +kernel
theorem dX2_comesTo_40 : decode cX2_comesTo 40 = .ok (.aload_n 0, 1) := by decide +kernel
theorem dX2_comesTo_41 : decode cX2_comesTo 41 = .ok (.getfield 10, 3) := by decide +kernel
theorem dX2_comesTo_44 : decode cX2_comesTo 44 = .ok (.iload_n 2, 1) := by decide +kernel
theorem dX2_comesTo_45 : decode cX2_comesTo 45 = .ok (.aload_n 0, 1) := by decide +kernel
theorem dX2_comesTo_46 : decode cX2_comesTo 46 = .ok (.getfield 16, 3) := by decide +kernel
theorem dX2_comesTo_49 : decode cX2_comesTo 49 = .ok (.invokevirtual 35, 3) := by decide +kernel
theorem dX2_comesTo_52 : decode cX2_comesTo 52 = .ok (.ireturn, 1) := by decide +kernel
theorem dX2_comesTo_53 : decode cX2_comesTo 53 = .ok (.iinc 2 1, 3) := by decide +kernel
theorem dX2_comesTo_56 : decode cX2_comesTo 56 = .ok (.goto (-54), 3) := by decide +kernel
theorem dX2_comesTo_59 : decode cX2_comesTo 59 = .ok (.iconst 0, 1) := by decide +kernel
theorem dX2_comesTo_60 : decode cX2_comesTo 60 = .ok (.ireturn, 1) := by decide +kernel
theorem dX3_init_0 : decode cX3_init 0 = .ok (.aload_n 0, 1) := by decide +kernel
theorem dX3_init_1 : decode cX3_init 1 = .ok (.invokespecial 3, 3) := by decide +kernel
theorem dX3_init_4 : decode cX3_init 4 = .ok (.aload_n 0, 1) := by decide +kernel
theorem dX3_init_5 : decode cX3_init 5 = .ok (.bipush 8, 2) := by decide +kernel
theorem dX3_init_7 : decode cX3_init 7 = .ok (.newarray .int, 2) := by decide +kernel
theorem dX3_init_9 : decode cX3_init 9 = .ok (.dup, 1) := by decide +kernel
theorem dX3_init_10 : decode cX3_init 10 = .ok (.iconst 0, 1) := by decide +kernel
theorem dX3_init_11 : decode cX3_init 11 = .ok (.iconst (-1), 1) := by decide +kernel
theorem dX3_init_12 : decode cX3_init 12 = .ok (.iastore, 1) := by decide +kernel
theorem dX3_init_13 : decode cX3_init 13 = .ok (.dup, 1) := by decide +kernel
theorem dX3_init_14 : decode cX3_init 14 = .ok (.iconst 1, 1) := by decide +kernel
theorem dX3_init_15 : decode cX3_init 15 = .ok (.iconst (-1), 1) := by decide +kernel
theorem dX3_init_16 : decode cX3_init 16 = .ok (.iastore, 1) := by decide +kernel
theorem dX3_init_17 : decode cX3_init 17 = .ok (.dup, 1) := by decide +kernel
theorem dX3_init_18 : decode cX3_init 18 = .ok (.iconst 2, 1) := by decide +kernel
theorem dX3_init_19 : decode cX3_init 19 = .ok (.iconst (-1), 1) := by decide +kernel
theorem dX3_init_20 : decode cX3_init 20 = .ok (.iastore, 1) := by decide +kernel
theorem dX3_init_21 : decode cX3_init 21 = .ok (.dup, 1) := by decide +kernel
theorem dX3_init_22 : decode cX3_init 22 = .ok (.iconst 3, 1) := by decide +kernel
theorem dX3_init_23 : decode cX3_init 23 = .ok (.iconst (-1), 1) := by decide +kernel
theorem dX3_init_24 : decode cX3_init 24 = .ok (.iastore, 1) := by decide +kernel
theorem dX3_init_25 : decode cX3_init 25 = .ok (.dup, 1) := by decide +kernel
theorem dX3_init_26 : decode cX3_init 26 = .ok (.iconst 4, 1) := by decide +kernel
theorem dX3_init_27 : decode cX3_init 27 = .ok (.iconst (-1), 1) := by decide +kernel
theorem dX3_init_28 : decode cX3_init 28 = .ok (.iastore, 1) := by decide +kernel
theorem dX3_init_29 : decode cX3_init 29 = .ok (.dup, 1) := by decide +kernel
theorem dX3_init_30 : decode cX3_init 30 = .ok (.iconst 5, 1) := by decide +kernel
theorem dX3_init_31 : decode cX3_init 31 = .ok (.iconst (-1), 1) := by decide +kernel
theorem dX3_init_32 : decode cX3_init 32 = .ok (.iastore, 1) := by decide +kernel
theorem dX3_init_33 : decode cX3_init 33 = .ok (.dup, 1) := by decide +kernel
theorem dX3_init_34 : decode cX3_init 34 = .ok (.bipush 6, 2) := by decide +kernel
theorem dX3_init_36 : decode cX3_init 36 = .ok (.iconst (-1), 1) := by decide +kernel
theorem dX3_init_37 : decode cX3_init 37 = .ok (.iastore, 1) := by decide +kernel
theorem dX3_init_38 : decode cX3_init 38 = .ok (.dup, 1) := by decide +kernel
theorem dX3_init_39 : decode cX3_init 39 = .ok (.bipush 7, 2) := by decide +kernel
theorem dX3_init_41 : decode cX3_init 41 = .ok (.iconst (-1), 1) := by decide +kernel
theorem dX3_init_42 : decode cX3_init 42 = .ok (.iastore, 1) := by decide +kernel
theorem dX3_init_43 : decode cX3_init 43 = .ok (.putfield 9, 3) := by decide +kernel
theorem dX3_init_46 : decode cX3_init 46 = .ok (.aload_n 0, 1) := by decide +kernel
theorem dX3_init_47 : decode cX3_init 47 = .ok (.sipush 256, 3) := by decide +kernel
theorem dX3_init_50 : decode cX3_init 50 = .ok (.newarray .boolean, 2) := by decide +kernel
theorem dX3_init_52 : decode cX3_init 52 = .ok (.putfield 15, 3) := by decide +kernel
theorem dX3_init_55 : decode cX3_init 55 = .ok (.return_, 1) := by decide +kernel
theorem dX3_tell_0 : decode cX3_tell 0 = .ok (.iload_n 1, 1) := by decide +kernel
theorem dX3_tell_1 : decode cX3_tell 1 = .ok (.bipush 8, 2) := by decide +kernel
theorem dX3_tell_3 : decode cX3_tell 3 = .ok (.invokestatic 19, 3) := by decide +kernel
theorem dX3_tell_6 : decode cX3_tell 6 = .ok (.ifCond .ne 5, 3) := by decide +kernel
theorem dX3_tell_9 : decode cX3_tell 9 = .ok (.iconst 0, 1) := by decide +kernel
theorem dX3_tell_10 : decode cX3_tell 10 = .ok (.ireturn, 1) := by decide +kernel
theorem dX3_tell_11 : decode cX3_tell 11 = .ok (.aload_n 0, 1) := by decide +kernel
theorem dX3_tell_12 : decode cX3_tell 12 = .ok (.getfield 9, 3) := by decide +kernel
theorem dX3_tell_15 : decode cX3_tell 15 = .ok (.iload_n 1, 1) := by decide +kernel
theorem dX3_tell_16 : decode cX3_tell 16 = .ok (.iload_n 2, 1) := by decide +kernel
theorem dX3_tell_17 : decode cX3_tell 17 = .ok (.iastore, 1) := by decide +kernel
theorem dX3_tell_18 : decode cX3_tell 18 = .ok (.iconst 1, 1) := by decide +kernel
theorem dX3_tell_19 : decode cX3_tell 19 = .ok (.ireturn, 1) := by decide +kernel
theorem dX3_fewest_0 : decode cX3_fewest 0 = .ok (.aload_n 0, 1) := by decide +kernel
theorem dX3_fewest_1 : decode cX3_fewest 1 = .ok (.aload_n 1, 1) := by decide +kernel
theorem dX3_fewest_2 : decode cX3_fewest 2 = .ok (.iload_n 2, 1) := by decide +kernel
theorem dX3_fewest_3 : decode cX3_fewest 3 = .ok (.invokevirtual 23, 3) := by decide +kernel
theorem dX3_fewest_6 : decode cX3_fewest 6 = .ok (.iconst (-1), 1) := by decide +kernel
theorem dX3_fewest_7 : decode cX3_fewest 7 = .ok (.istore_n 3, 1) := by decide +kernel
theorem dX3_fewest_8 : decode cX3_fewest 8 = .ok (.iconst 0, 1) := by decide +kernel
theorem dX3_fewest_9 : decode cX3_fewest 9 = .ok (.istore 4, 2) := by decide +kernel
theorem dX3_fewest_11 : decode cX3_fewest 11 = .ok (.iload 4, 2) := by decide +kernel
theorem dX3_fewest_13 : decode cX3_fewest 13 = .ok (.sipush 256, 3) := by decide +kernel
theorem dX3_fewest_16 : decode cX3_fewest 16 = .ok (.if_icmp .ge 50, 3) := by decide +kernel
theorem dX3_fewest_19 : decode cX3_fewest 19 = .ok (.iload_n 3, 1) := by decide +kernel
theorem dX3_fewest_20 : decode cX3_fewest 20 = .ok (.iconst (-1), 1) := by decide +kernel
theorem dX3_fewest_21 : decode cX3_fewest 21 = .ok (.if_icmp .eq 15, 3) := by decide +kernel
theorem dX3_fewest_24 : decode cX3_fewest 24 = .ok (.iload 4, 2) := by decide +kernel
theorem dX3_fewest_26 : decode cX3_fewest 26 = .ok (.invokestatic 27, 3) := by decide +kernel
theorem dX3_fewest_29 : decode cX3_fewest 29 = .ok (.iload_n 3, 1) := by decide +kernel
theorem dX3_fewest_30 : decode cX3_fewest 30 = .ok (.invokestatic 27, 3) := by decide +kernel
theorem dX3_fewest_33 : decode cX3_fewest 33 = .ok (.if_icmp .ge 7, 3) := by decide +kernel
theorem dX3_fewest_36 : decode cX3_fewest 36 = .ok (.iconst 1, 1) := by decide +kernel
theorem dX3_fewest_37 : decode cX3_fewest 37 = .ok (.goto 4, 3) := by decide +kernel
theorem dX3_fewest_40 : decode cX3_fewest 40 = .ok (.iconst 0, 1) := by decide +kernel
theorem dX3_fewest_41 : decode cX3_fewest 41 = .ok (.istore 5, 2) := by decide +kernel
theorem dX3_fewest_43 : decode cX3_fewest 43 = .ok (.iload 5, 2) := by decide +kernel
theorem dX3_fewest_45 : decode cX3_fewest 45 = .ok (.ifCond .eq 15, 3) := by decide +kernel
theorem dX3_fewest_48 : decode cX3_fewest 48 = .ok (.aload_n 0, 1) := by decide +kernel
theorem dX3_fewest_49 : decode cX3_fewest 49 = .ok (.iload 4, 2) := by decide +kernel
theorem dX3_fewest_51 : decode cX3_fewest 51 = .ok (.invokevirtual 33, 3) := by decide +kernel
theorem dX3_fewest_54 : decode cX3_fewest 54 = .ok (.ifCond .eq 6, 3) := by decide +kernel
theorem dX3_fewest_57 : decode cX3_fewest 57 = .ok (.iload 4, 2) := by decide +kernel
theorem dX3_fewest_59 : decode cX3_fewest 59 = .ok (.istore_n 3, 1) := by decide +kernel
theorem dX3_fewest_60 : decode cX3_fewest 60 = .ok (.iinc 4 1, 3) := by decide +kernel
theorem dX3_fewest_63 : decode cX3_fewest 63 = .ok (.goto (-52), 3) := by decide +kernel
theorem dX3_fewest_66 : decode cX3_fewest 66 = .ok (.iload_n 3, 1) := by decide +kernel
theorem dX3_fewest_67 : decode cX3_fewest 67 = .ok (.ireturn, 1) := by decide +kernel
theorem dX3_findNeeded_0 : decode cX3_findNeeded 0 = .ok (.iconst 0, 1) := by decide +kernel
theorem dX3_findNeeded_1 : decode cX3_findNeeded 1 = .ok (.istore_n 3, 1) := by decide +kernel
theorem dX3_findNeeded_2 : decode cX3_findNeeded 2 = .ok (.iload_n 3, 1) := by decide +kernel
theorem dX3_findNeeded_3 : decode cX3_findNeeded 3 = .ok (.sipush 256, 3) := by decide +kernel
theorem dX3_findNeeded_6 : decode cX3_findNeeded 6 = .ok (.if_icmp .ge 16, 3) := by decide +kernel
theorem dX3_findNeeded_9 : decode cX3_findNeeded 9 = .ok (.aload_n 0, 1) := by decide +kernel
theorem dX3_findNeeded_10 : decode cX3_findNeeded 10 = .ok (.getfield 15, 3) := by decide +kernel
theorem dX3_findNeeded_13 : decode cX3_findNeeded 13 = .ok (.iload_n 3, 1) := by decide +kernel
theorem dX3_findNeeded_14 : decode cX3_findNeeded 14 = .ok (.iconst 0, 1) := by decide +kernel
theorem dX3_findNeeded_15 : decode cX3_findNeeded 15 = .ok (.bastore, 1) := by decide +kernel
theorem dX3_findNeeded_16 : decode cX3_findNeeded 16 = .ok (.iinc 3 1, 3) := by decide +kernel
theorem dX3_findNeeded_19 : decode cX3_findNeeded 19 = .ok (.goto (-17), 3) := by decide +kernel
theorem dX3_findNeeded_22 : decode cX3_findNeeded 22 = .ok (.iconst 0, 1) := by decide +kernel
theorem dX3_findNeeded_23 : decode cX3_findNeeded 23 = .ok (.istore_n 3, 1) := by decide +kernel
theorem dX3_findNeeded_24 : decode cX3_findNeeded 24 = .ok (.iload_n 3, 1) := by decide +kernel
theorem dX3_findNeeded_25 : decode cX3_findNeeded 25 = .ok (.aload_n 1, 1) := by decide +kernel
theorem dX3_findNeeded_26 : decode cX3_findNeeded 26 = .ok (.getfield 37, 3) := by decide +kernel
theorem dX3_findNeeded_29 : decode cX3_findNeeded 29 = .ok (.arraylength, 1) := by decide +kernel
theorem dX3_findNeeded_30 : decode cX3_findNeeded 30 = .ok (.if_icmp .ge 30, 3) := by decide +kernel
theorem dX3_findNeeded_33 : decode cX3_findNeeded 33 = .ok (.aload_n 1, 1) := by decide +kernel
theorem dX3_findNeeded_34 : decode cX3_findNeeded 34 = .ok (.getfield 37, 3) := by decide +kernel
theorem dX3_findNeeded_37 : decode cX3_findNeeded 37 = .ok (.iload_n 3, 1) := by decide +kernel
theorem dX3_findNeeded_38 : decode cX3_findNeeded 38 = .ok (.iaload, 1) := by decide +kernel
theorem dX3_findNeeded_39 : decode cX3_findNeeded 39 = .ok (.ifCond .le 15, 3) := by decide +kernel
theorem dX3_findNeeded_42 : decode cX3_findNeeded 42 = .ok (.aload_n 0, 1) := by decide +kernel
theorem dX3_findNeeded_43 : decode cX3_findNeeded 43 = .ok (.getfield 15, 3) := by decide +kernel
theorem dX3_findNeeded_46 : decode cX3_findNeeded 46 = .ok (.aload_n 0, 1) := by decide +kernel
theorem dX3_findNeeded_47 : decode cX3_findNeeded 47 = .ok (.iload_n 3, 1) := by decide +kernel
theorem dX3_findNeeded_48 : decode cX3_findNeeded 48 = .ok (.iload_n 2, 1) := by decide +kernel
theorem dX3_findNeeded_49 : decode cX3_findNeeded 49 = .ok (.invokevirtual 42, 3) := by decide +kernel
theorem dX3_findNeeded_52 : decode cX3_findNeeded 52 = .ok (.iconst 1, 1) := by decide +kernel
theorem dX3_findNeeded_53 : decode cX3_findNeeded 53 = .ok (.bastore, 1) := by decide +kernel
theorem dX3_findNeeded_54 : decode cX3_findNeeded 54 = .ok (.iinc 3 1, 3) := by decide +kernel
theorem dX3_findNeeded_57 : decode cX3_findNeeded 57 = .ok (.goto (-33), 3) := by decide +kernel
theorem dX3_findNeeded_60 : decode cX3_findNeeded 60 = .ok (.return_, 1) := by decide +kernel
theorem dX3_nearTo_0 : decode cX3_nearTo 0 = .ok (.iconst 0, 1) := by decide +kernel
theorem dX3_nearTo_1 : decode cX3_nearTo 1 = .ok (.istore_n 3, 1) := by decide +kernel
theorem dX3_nearTo_2 : decode cX3_nearTo 2 = .ok (.iconst 0, 1) := by decide +kernel
theorem dX3_nearTo_3 : decode cX3_nearTo 3 = .ok (.istore 4, 2) := by decide +kernel
theorem dX3_nearTo_5 : decode cX3_nearTo 5 = .ok (.iload 4, 2) := by decide +kernel
theorem dX3_nearTo_7 : decode cX3_nearTo 7 = .ok (.bipush 8, 2) := by decide +kernel
theorem dX3_nearTo_9 : decode cX3_nearTo 9 = .ok (.if_icmp .ge 42, 3) := by decide +kernel
theorem dX3_nearTo_12 : decode cX3_nearTo 12 = .ok (.aload_n 0, 1) := by decide +kernel
theorem dX3_nearTo_13 : decode cX3_nearTo 13 = .ok (.getfield 9, 3) := by decide +kernel
theorem dX3_nearTo_16 : decode cX3_nearTo 16 = .ok (.iload 4, 2) := by decide +kernel
theorem dX3_nearTo_18 : decode cX3_nearTo 18 = .ok (.iaload, 1) := by decide +kernel
theorem dX3_nearTo_19 : decode cX3_nearTo 19 = .ok (.iconst (-1), 1) := by decide +kernel
theorem dX3_nearTo_20 : decode cX3_nearTo 20 = .ok (.if_icmp .eq 25, 3) := by decide +kernel
theorem dX3_nearTo_23 : decode cX3_nearTo 23 = .ok (.aload_n 0, 1) := by decide +kernel
theorem dX3_nearTo_24 : decode cX3_nearTo 24 = .ok (.getfield 9, 3) := by decide +kernel
theorem dX3_nearTo_27 : decode cX3_nearTo 27 = .ok (.iload 4, 2) := by decide +kernel
theorem dX3_nearTo_29 : decode cX3_nearTo 29 = .ok (.iaload, 1) := by decide +kernel
theorem dX3_nearTo_30 : decode cX3_nearTo 30 = .ok (.iload_n 1, 1) := by decide +kernel
theorem dX3_nearTo_31 : decode cX3_nearTo 31 = .ok (.invokestatic 46, 3) := by decide +kernel
theorem dX3_nearTo_34 : decode cX3_nearTo 34 = .ok (.iload_n 2, 1) := by decide +kernel
theorem dX3_nearTo_35 : decode cX3_nearTo 35 = .ok (.if_icmp .gt 10, 3) := by decide +kernel
theorem dX3_nearTo_38 : decode cX3_nearTo 38 = .ok (.iload_n 3, 1) := by decide +kernel
theorem dX3_nearTo_39 : decode cX3_nearTo 39 = .ok (.iconst 1, 1) := by decide +kernel
theorem dX3_nearTo_40 : decode cX3_nearTo 40 = .ok (.iload 4, 2) := by decide +kernel
theorem dX3_nearTo_42 : decode cX3_nearTo 42 = .ok (.ishl, 1) := by decide +kernel
theorem dX3_nearTo_43 : decode cX3_nearTo 43 = .ok (.ior, 1) := by decide +kernel
theorem dX3_nearTo_44 : decode cX3_nearTo 44 = .ok (.istore_n 3, 1) := by decide +kernel
theorem dX3_nearTo_45 : decode cX3_nearTo 45 = .ok (.iinc 4 1, 3) := by decide +kernel
theorem dX3_nearTo_48 : decode cX3_nearTo 48 = .ok (.goto (-43), 3) := by decide +kernel
theorem dX3_nearTo_51 : decode cX3_nearTo 51 = .ok (.iload_n 3, 1) := by decide +kernel
theorem dX3_nearTo_52 : decode cX3_nearTo 52 = .ok (.sipush 255, 3) := by decide +kernel
theorem dX3_nearTo_55 : decode cX3_nearTo 55 = .ok (.iand, 1) := by decide +kernel
theorem dX3_nearTo_56 : decode cX3_nearTo 56 = .ok (.ireturn, 1) := by decide +kernel
theorem dX3_isFair_0 : decode cX3_isFair 0 = .ok (.iconst 0, 1) := by decide +kernel
theorem dX3_isFair_1 : decode cX3_isFair 1 = .ok (.istore_n 2, 1) := by decide +kernel
theorem dX3_isFair_2 : decode cX3_isFair 2 = .ok (.iload_n 2, 1) := by decide +kernel
theorem dX3_isFair_3 : decode cX3_isFair 3 = .ok (.sipush 256, 3) := by decide +kernel
theorem dX3_isFair_6 : decode cX3_isFair 6 = .ok (.if_icmp .ge 26, 3) := by decide +kernel
theorem dX3_isFair_9 : decode cX3_isFair 9 = .ok (.aload_n 0, 1) := by decide +kernel
theorem dX3_isFair_10 : decode cX3_isFair 10 = .ok (.getfield 15, 3) := by decide +kernel
theorem dX3_isFair_13 : decode cX3_isFair 13 = .ok (.iload_n 2, 1) := by decide +kernel
theorem dX3_isFair_14 : decode cX3_isFair 14 = .ok (.baload, 1) := by decide +kernel
theorem dX3_isFair_15 : decode cX3_isFair 15 = .ok (.ifCond .eq 11, 3) := by decide +kernel
theorem dX3_isFair_18 : decode cX3_isFair 18 = .ok (.iload_n 2, 1) := by decide +kernel
theorem dX3_isFair_19 : decode cX3_isFair 19 = .ok (.iload_n 1, 1) := by decide +kernel
theorem dX3_isFair_20 : decode cX3_isFair 20 = .ok (.iand, 1) := by decide +kernel
theorem dX3_isFair_21 : decode cX3_isFair 21 = .ok (.ifCond .ne 5, 3) := by decide +kernel
theorem dX3_isFair_24 : decode cX3_isFair 24 = .ok (.iconst 0, 1) := by decide +kernel
theorem dX3_isFair_25 : decode cX3_isFair 25 = .ok (.ireturn, 1) := by decide +kernel
theorem dX3_isFair_26 : decode cX3_isFair 26 = .ok (.iinc 2 1, 3) := by decide +kernel
theorem dX3_isFair_29 : decode cX3_isFair 29 = .ok (.goto (-27), 3) := by decide +kernel
theorem dX3_isFair_32 : decode cX3_isFair 32 = .ok (.iconst 1, 1) := by decide +kernel
theorem dX3_isFair_33 : decode cX3_isFair 33 = .ok (.ireturn, 1) := by decide +kernel
theorem dX4_init_0 : decode cX4_init 0 = .ok (.aload_n 0, 1) := by decide +kernel
theorem dX4_init_1 : decode cX4_init 1 = .ok (.invokespecial 3, 3) := by decide +kernel
theorem dX4_init_4 : decode cX4_init 4 = .ok (.aload_n 0, 1) := by decide +kernel
theorem dX4_init_5 : decode cX4_init 5 = .ok (.sipush 600, 3) := by decide +kernel
theorem dX4_init_8 : decode cX4_init 8 = .ok (.newarray .int, 2) := by decide +kernel
theorem dX4_init_10 : decode cX4_init 10 = .ok (.putfield 9, 3) := by decide +kernel
theorem dX4_init_13 : decode cX4_init 13 = .ok (.aload_n 0, 1) := by decide +kernel
theorem dX4_init_14 : decode cX4_init 14 = .ok (.sipush 601, 3) := by decide +kernel
theorem dX4_init_17 : decode cX4_init 17 = .ok (.newarray .int, 2) := by decide +kernel
theorem dX4_init_19 : decode cX4_init 19 = .ok (.putfield 15, 3) := by decide +kernel
theorem dX4_init_22 : decode cX4_init 22 = .ok (.aload_n 0, 1) := by decide +kernel
theorem dX4_init_23 : decode cX4_init 23 = .ok (.sipush 601, 3) := by decide +kernel
theorem dX4_init_26 : decode cX4_init 26 = .ok (.newarray .int, 2) := by decide +kernel
theorem dX4_init_28 : decode cX4_init 28 = .ok (.putfield 18, 3) := by decide +kernel
theorem dX4_init_31 : decode cX4_init 31 = .ok (.aload_n 0, 1) := by decide +kernel
theorem dX4_init_32 : decode cX4_init 32 = .ok (.new 21, 3) := by decide +kernel
theorem dX4_init_35 : decode cX4_init 35 = .ok (.dup, 1) := by decide +kernel
theorem dX4_init_36 : decode cX4_init 36 = .ok (.invokespecial 23, 3) := by decide +kernel
theorem dX4_init_39 : decode cX4_init 39 = .ok (.putfield 24, 3) := by decide +kernel
theorem dX4_init_42 : decode cX4_init 42 = .ok (.aload_n 0, 1) := by decide +kernel
theorem dX4_init_43 : decode cX4_init 43 = .ok (.iconst (-1), 1) := by decide +kernel
theorem dX4_init_44 : decode cX4_init 44 = .ok (.putfield 28, 3) := by decide +kernel
theorem dX4_init_47 : decode cX4_init 47 = .ok (.return_, 1) := by decide +kernel
theorem dX4_hasRoom_0 : decode cX4_hasRoom 0 = .ok (.aload_n 0, 1) := by decide +kernel
theorem dX4_hasRoom_1 : decode cX4_hasRoom 1 = .ok (.getfield 32, 3) := by decide +kernel
theorem dX4_hasRoom_4 : decode cX4_hasRoom 4 = .ok (.iload_n 1, 1) := by decide +kernel
theorem dX4_hasRoom_5 : decode cX4_hasRoom 5 = .ok (.iadd, 1) := by decide +kernel
theorem dX4_hasRoom_6 : decode cX4_hasRoom 6 = .ok (.sipush 600, 3) := by decide +kernel
theorem dX4_hasRoom_9 : decode cX4_hasRoom 9 = .ok (.if_icmp .gt 7, 3) := by decide +kernel
theorem dX4_hasRoom_12 : decode cX4_hasRoom 12 = .ok (.iconst 1, 1) := by decide +kernel
theorem dX4_hasRoom_13 : decode cX4_hasRoom 13 = .ok (.goto 4, 3) := by decide +kernel
theorem dX4_hasRoom_16 : decode cX4_hasRoom 16 = .ok (.iconst 0, 1) := by decide +kernel
theorem dX4_hasRoom_17 : decode cX4_hasRoom 17 = .ok (.ireturn, 1) := by decide +kernel
theorem dX4_addBytes_0 : decode cX4_addBytes 0 = .ok (.bipush 24, 2) := by decide +kernel
theorem dX4_addBytes_2 : decode cX4_addBytes 2 = .ok (.istore_n 2, 1) := by decide +kernel
theorem dX4_addBytes_3 : decode cX4_addBytes 3 = .ok (.iload_n 2, 1) := by decide +kernel
theorem dX4_addBytes_4 : decode cX4_addBytes 4 = .ok (.ifCond .lt 45, 3) := by decide +kernel
theorem dX4_addBytes_7 : decode cX4_addBytes 7 = .ok (.aload_n 0, 1) := by decide +kernel
theorem dX4_addBytes_8 : decode cX4_addBytes 8 = .ok (.getfield 32, 3) := by decide +kernel
theorem dX4_addBytes_11 : decode cX4_addBytes 11 = .ok (.sipush 600, 3) := by decide +kernel
theorem dX4_addBytes_14 : decode cX4_addBytes 14 = .ok (.if_icmp .ge 35, 3) := by decide +kernel
theorem dX4_addBytes_17 : decode cX4_addBytes 17 = .ok (.aload_n 0, 1) := by decide +kernel
theorem dX4_addBytes_18 : decode cX4_addBytes 18 = .ok (.getfield 9, 3) := by decide +kernel
theorem dX4_addBytes_21 : decode cX4_addBytes 21 = .ok (.aload_n 0, 1) := by decide +kernel
theorem dX4_addBytes_22 : decode cX4_addBytes 22 = .ok (.getfield 32, 3) := by decide +kernel
theorem dX4_addBytes_25 : decode cX4_addBytes 25 = .ok (.iload_n 1, 1) := by decide +kernel
theorem dX4_addBytes_26 : decode cX4_addBytes 26 = .ok (.iload_n 2, 1) := by decide +kernel
theorem dX4_addBytes_27 : decode cX4_addBytes 27 = .ok (.iushr, 1) := by decide +kernel
theorem dX4_addBytes_28 : decode cX4_addBytes 28 = .ok (.sipush 255, 3) := by decide +kernel
theorem dX4_addBytes_31 : decode cX4_addBytes 31 = .ok (.iand, 1) := by decide +kernel
theorem dX4_addBytes_32 : decode cX4_addBytes 32 = .ok (.iastore, 1) := by decide +kernel
theorem dX4_addBytes_33 : decode cX4_addBytes 33 = .ok (.aload_n 0, 1) := by decide +kernel
theorem dX4_addBytes_34 : decode cX4_addBytes 34 = .ok (.dup, 1) := by decide +kernel
theorem dX4_addBytes_35 : decode cX4_addBytes 35 = .ok (.getfield 32, 3) := by decide +kernel
theorem dX4_addBytes_38 : decode cX4_addBytes 38 = .ok (.iconst 1, 1) := by decide +kernel
theorem dX4_addBytes_39 : decode cX4_addBytes 39 = .ok (.iadd, 1) := by decide +kernel
theorem dX4_addBytes_40 : decode cX4_addBytes 40 = .ok (.putfield 32, 3) := by decide +kernel
theorem dX4_addBytes_43 : decode cX4_addBytes 43 = .ok (.iinc 2 (-8), 3) := by decide +kernel
theorem dX4_addBytes_46 : decode cX4_addBytes 46 = .ok (.goto (-43), 3) := by decide +kernel
theorem dX4_addBytes_49 : decode cX4_addBytes 49 = .ok (.aload_n 0, 1) := by decide +kernel
theorem dX4_addBytes_50 : decode cX4_addBytes 50 = .ok (.getfield 32, 3) := by decide +kernel
theorem dX4_addBytes_53 : decode cX4_addBytes 53 = .ok (.ireturn, 1) := by decide +kernel
theorem dX4_cutTo_0 : decode cX4_cutTo 0 = .ok (.iload_n 1, 1) := by decide +kernel
theorem dX4_cutTo_1 : decode cX4_cutTo 1 = .ok (.ifCond .lt 11, 3) := by decide +kernel
theorem dX4_cutTo_4 : decode cX4_cutTo 4 = .ok (.iload_n 1, 1) := by decide +kernel
theorem dX4_cutTo_5 : decode cX4_cutTo 5 = .ok (.aload_n 0, 1) := by decide +kernel
theorem dX4_cutTo_6 : decode cX4_cutTo 6 = .ok (.getfield 32, 3) := by decide +kernel
theorem dX4_cutTo_9 : decode cX4_cutTo 9 = .ok (.if_icmp .le 5, 3) := by decide +kernel
theorem dX4_cutTo_12 : decode cX4_cutTo 12 = .ok (.iconst 0, 1) := by decide +kernel
theorem dX4_cutTo_13 : decode cX4_cutTo 13 = .ok (.ireturn, 1) := by decide +kernel
theorem dX4_cutTo_14 : decode cX4_cutTo 14 = .ok (.aload_n 0, 1) := by decide +kernel
theorem dX4_cutTo_15 : decode cX4_cutTo 15 = .ok (.iload_n 1, 1) := by decide +kernel
theorem dX4_cutTo_16 : decode cX4_cutTo 16 = .ok (.putfield 32, 3) := by decide +kernel
theorem dX4_cutTo_19 : decode cX4_cutTo 19 = .ok (.iconst 1, 1) := by decide +kernel
theorem dX4_cutTo_20 : decode cX4_cutTo 20 = .ok (.ireturn, 1) := by decide +kernel
theorem dX4_exchange_0 : decode cX4_exchange 0 = .ok (.aload_n 0, 1) := by decide +kernel
theorem dX4_exchange_1 : decode cX4_exchange 1 = .ok (.getfield 24, 3) := by decide +kernel
theorem dX4_exchange_4 : decode cX4_exchange 4 = .ok (.astore_n 2, 1) := by decide +kernel
theorem dX4_exchange_5 : decode cX4_exchange 5 = .ok (.aload_n 0, 1) := by decide +kernel
theorem dX4_exchange_6 : decode cX4_exchange 6 = .ok (.aload_n 1, 1) := by decide +kernel
theorem dX4_exchange_7 : decode cX4_exchange 7 = .ok (.putfield 24, 3) := by decide +kernel
theorem dX4_exchange_10 : decode cX4_exchange 10 = .ok (.aload_n 2, 1) := by decide +kernel
theorem dX4_exchange_11 : decode cX4_exchange 11 = .ok (.areturn, 1) := by decide +kernel
theorem dX4_readTape_0 : decode cX4_readTape 0 = .ok (.aload_n 0, 1) := by decide +kernel
theorem dX4_readTape_1 : decode cX4_readTape 1 = .ok (.iload_n 1, 1) := by decide +kernel
theorem dX4_readTape_2 : decode cX4_readTape 2 = .ok (.putfield 35, 3) := by decide +kernel
theorem dX4_readTape_5 : decode cX4_readTape 5 = .ok (.aload_n 0, 1) := by decide +kernel
theorem dX4_readTape_6 : decode cX4_readTape 6 = .ok (.iconst 0, 1) := by decide +kernel
theorem dX4_readTape_7 : decode cX4_readTape 7 = .ok (.putfield 39, 3) := by decide +kernel
theorem dX4_readTape_10 : decode cX4_readTape 10 = .ok (.aload_n 0, 1) := by decide +kernel
theorem dX4_readTape_11 : decode cX4_readTape 11 = .ok (.iconst (-1), 1) := by decide +kernel
theorem dX4_readTape_12 : decode cX4_readTape 12 = .ok (.putfield 28, 3) := by decide +kernel
theorem dX4_readTape_15 : decode cX4_readTape 15 = .ok (.aload_n 0, 1) := by decide +kernel
theorem dX4_readTape_16 : decode cX4_readTape 16 = .ok (.getfield 24, 3) := by decide +kernel
theorem dX4_readTape_19 : decode cX4_readTape 19 = .ok (.invokevirtual 42, 3) := by decide +kernel
theorem dX4_readTape_22 : decode cX4_readTape 22 = .ok (.aload_n 0, 1) := by decide +kernel
theorem dX4_readTape_23 : decode cX4_readTape 23 = .ok (.invokevirtual 45, 3) := by decide +kernel
theorem dX4_readTape_26 : decode cX4_readTape 26 = .ok (.aload_n 0, 1) := by decide +kernel
theorem dX4_readTape_27 : decode cX4_readTape 27 = .ok (.iconst 0, 1) := by decide +kernel
theorem dX4_readTape_28 : decode cX4_readTape 28 = .ok (.putfield 32, 3) := by decide +kernel
theorem dX4_readTape_31 : decode cX4_readTape 31 = .ok (.aload_n 0, 1) := by decide +kernel
theorem dX4_readTape_32 : decode cX4_readTape 32 = .ok (.iconst 0, 1) := by decide +kernel
theorem dX4_readTape_33 : decode cX4_readTape 33 = .ok (.putfield 48, 3) := by decide +kernel
theorem dX4_readTape_36 : decode cX4_readTape 36 = .ok (.aload_n 0, 1) := by decide +kernel
theorem dX4_readTape_37 : decode cX4_readTape 37 = .ok (.aload_n 0, 1) := by decide +kernel
theorem dX4_readTape_38 : decode cX4_readTape 38 = .ok (.getfield 15, 3) := by decide +kernel
theorem dX4_readTape_41 : decode cX4_readTape 41 = .ok (.iconst 0, 1) := by decide +kernel
theorem dX4_readTape_42 : decode cX4_readTape 42 = .ok (.iaload, 1) := by decide +kernel
theorem dX4_readTape_43 : decode cX4_readTape 43 = .ok (.putfield 51, 3) := by decide +kernel
theorem dX4_readTape_46 : decode cX4_readTape 46 = .ok (.iconst 1, 1) := by decide +kernel
theorem dX4_readTape_47 : decode cX4_readTape 47 = .ok (.istore_n 2, 1) := by decide +kernel
theorem dX4_readTape_48 : decode cX4_readTape 48 = .ok (.iconst 0, 1) := by decide +kernel
theorem dX4_readTape_49 : decode cX4_readTape 49 = .ok (.istore_n 3, 1) := by decide +kernel
theorem dX4_readTape_50 : decode cX4_readTape 50 = .ok (.iload_n 3, 1) := by decide +kernel
theorem dX4_readTape_51 : decode cX4_readTape 51 = .ok (.sipush 600, 3) := by decide +kernel
theorem dX4_readTape_54 : decode cX4_readTape 54 = .ok (.if_icmp .gt 25, 3) := by decide +kernel
theorem dX4_readTape_57 : decode cX4_readTape 57 = .ok (.iload_n 2, 1) := by decide +kernel
theorem dX4_readTape_58 : decode cX4_readTape 58 = .ok (.ifCond .eq 21, 3) := by decide +kernel
theorem dX4_readTape_61 : decode cX4_readTape 61 = .ok (.aload_n 0, 1) := by decide +kernel
theorem dX4_readTape_62 : decode cX4_readTape 62 = .ok (.getfield 51, 3) := by decide +kernel
theorem dX4_readTape_65 : decode cX4_readTape 65 = .ok (.ifCond .eq 14, 3) := by decide +kernel
theorem dX4_readTape_68 : decode cX4_readTape 68 = .ok (.aload_n 0, 1) := by decide +kernel
theorem dX4_readTape_69 : decode cX4_readTape 69 = .ok (.invokevirtual 54, 3) := by decide +kernel
theorem dX4_readTape_72 : decode cX4_readTape 72 = .ok (.istore_n 2, 1) := by decide +kernel
theorem dX4_readTape_73 : decode cX4_readTape 73 = .ok (.iinc 3 1, 3) := by decide +kernel
theorem dX4_readTape_76 : decode cX4_readTape 76 = .ok (.goto (-26), 3) := by decide +kernel
theorem dX4_readTape_79 : decode cX4_readTape 79 = .ok (.iload_n 2, 1) := by decide +kernel
theorem dX4_readTape_80 : decode cX4_readTape 80 = .ok (.ireturn, 1) := by decide +kernel
theorem dX4_scan_0 : decode cX4_scan 0 = .ok (.iconst 0, 1) := by decide +kernel
theorem dX4_scan_1 : decode cX4_scan 1 = .ok (.istore_n 1, 1) := by decide +kernel
theorem dX4_scan_2 : decode cX4_scan 2 = .ok (.iconst 0, 1) := by decide +kernel
theorem dX4_scan_3 : decode cX4_scan 3 = .ok (.istore_n 2, 1) := by decide +kernel
theorem dX4_scan_4 : decode cX4_scan 4 = .ok (.iload_n 2, 1) := by decide +kernel
theorem dX4_scan_5 : decode cX4_scan 5 = .ok (.aload_n 0, 1) := by decide +kernel
theorem dX4_scan_6 : decode cX4_scan 6 = .ok (.getfield 32, 3) := by decide +kernel
theorem dX4_scan_9 : decode cX4_scan 9 = .ok (.if_icmp .ge 135, 3) := by decide +kernel
theorem dX4_scan_12 : decode cX4_scan 12 = .ok (.iload_n 1, 1) := by decide +kernel
theorem dX4_scan_13 : decode cX4_scan 13 = .ok (.sipush 600, 3) := by decide +kernel
theorem dX4_scan_16 : decode cX4_scan 16 = .ok (.if_icmp .ge 128, 3) := by decide +kernel
theorem dX4_scan_19 : decode cX4_scan 19 = .ok (.aload_n 0, 1) := by decide +kernel
theorem dX4_scan_20 : decode cX4_scan 20 = .ok (.getfield 9, 3) := by decide +kernel
theorem dX4_scan_23 : decode cX4_scan 23 = .ok (.iload_n 2, 1) := by decide +kernel
theorem dX4_scan_24 : decode cX4_scan 24 = .ok (.iaload, 1) := by decide +kernel
theorem dX4_scan_25 : decode cX4_scan 25 = .ok (.istore_n 3, 1) := by decide +kernel
theorem dX4_scan_26 : decode cX4_scan 26 = .ok (.iload_n 2, 1) := by decide +kernel
theorem dX4_scan_27 : decode cX4_scan 27 = .ok (.istore 4, 2) := by decide +kernel
theorem dX4_scan_29 : decode cX4_scan 29 = .ok (.iinc 2 1, 3) := by decide +kernel
theorem dX4_scan_32 : decode cX4_scan 32 = .ok (.iload_n 3, 1) := by decide +kernel
theorem dX4_scan_33 : decode cX4_scan 33 = .ok (.bipush 32, 2) := by decide +kernel
theorem dX4_scan_35 : decode cX4_scan 35 = .ok (.if_icmp .eq (-31), 3) := by decide +kernel
theorem dX4_scan_38 : decode cX4_scan 38 = .ok (.iload_n 3, 1) := by decide +kernel
theorem dX4_scan_39 : decode cX4_scan 39 = .ok (.bipush 10, 2) := by decide +kernel
theorem dX4_scan_41 : decode cX4_scan 41 = .ok (.if_icmp .ne 6, 3) := by decide +kernel
theorem dX4_scan_44 : decode cX4_scan 44 = .ok (.goto (-40), 3) := by decide +kernel
theorem dX4_scan_47 : decode cX4_scan 47 = .ok (.iload_n 3, 1) := by decide +kernel
theorem dX4_scan_48 : decode cX4_scan 48 = .ok (.invokestatic 58, 3) := by decide +kernel
theorem dX4_scan_51 : decode cX4_scan 51 = .ok (.ifCond .eq 27, 3) := by decide +kernel
theorem dX4_scan_54 : decode cX4_scan 54 = .ok (.aload_n 0, 1) := by decide +kernel
theorem dX4_scan_55 : decode cX4_scan 55 = .ok (.iload 4, 2) := by decide +kernel
theorem dX4_scan_57 : decode cX4_scan 57 = .ok (.iconst 1, 1) := by decide +kernel
theorem dX4_scan_58 : decode cX4_scan 58 = .ok (.invokevirtual 62, 3) := by decide +kernel
theorem dX4_scan_61 : decode cX4_scan 61 = .ok (.istore_n 2, 1) := by decide +kernel
theorem dX4_scan_62 : decode cX4_scan 62 = .ok (.aload_n 0, 1) := by decide +kernel
theorem dX4_scan_63 : decode cX4_scan 63 = .ok (.getfield 15, 3) := by decide +kernel
theorem dX4_scan_66 : decode cX4_scan 66 = .ok (.iload_n 1, 1) := by decide +kernel
theorem dX4_scan_67 : decode cX4_scan 67 = .ok (.aload_n 0, 1) := by decide +kernel
theorem dX4_scan_68 : decode cX4_scan 68 = .ok (.iload 4, 2) := by decide +kernel
theorem dX4_scan_70 : decode cX4_scan 70 = .ok (.iload_n 2, 1) := by decide +kernel
theorem dX4_scan_71 : decode cX4_scan 71 = .ok (.invokevirtual 66, 3) := by decide +kernel
theorem dX4_scan_74 : decode cX4_scan 74 = .ok (.iastore, 1) := by decide +kernel
theorem dX4_scan_75 : decode cX4_scan 75 = .ok (.goto 55, 3) := by decide +kernel
theorem dX4_scan_78 : decode cX4_scan 78 = .ok (.iload_n 3, 1) := by decide +kernel
theorem dX4_scan_79 : decode cX4_scan 79 = .ok (.invokestatic 70, 3) := by decide +kernel
theorem dX4_scan_82 : decode cX4_scan 82 = .ok (.ifCond .eq 27, 3) := by decide +kernel
theorem dX4_scan_85 : decode cX4_scan 85 = .ok (.aload_n 0, 1) := by decide +kernel
theorem dX4_scan_86 : decode cX4_scan 86 = .ok (.iload 4, 2) := by decide +kernel
theorem dX4_scan_88 : decode cX4_scan 88 = .ok (.iconst 0, 1) := by decide +kernel
theorem dX4_scan_89 : decode cX4_scan 89 = .ok (.invokevirtual 62, 3) := by decide +kernel
theorem dX4_scan_92 : decode cX4_scan 92 = .ok (.istore_n 2, 1) := by decide +kernel
theorem dX4_scan_93 : decode cX4_scan 93 = .ok (.aload_n 0, 1) := by decide +kernel
theorem dX4_scan_94 : decode cX4_scan 94 = .ok (.getfield 15, 3) := by decide +kernel
theorem dX4_scan_97 : decode cX4_scan 97 = .ok (.iload_n 1, 1) := by decide +kernel
theorem dX4_scan_98 : decode cX4_scan 98 = .ok (.aload_n 0, 1) := by decide +kernel
theorem dX4_scan_99 : decode cX4_scan 99 = .ok (.iload 4, 2) := by decide +kernel
theorem dX4_scan_101 : decode cX4_scan 101 = .ok (.iload_n 2, 1) := by decide +kernel
theorem dX4_scan_102 : decode cX4_scan 102 = .ok (.invokevirtual 73, 3) := by decide +kernel
theorem dX4_scan_105 : decode cX4_scan 105 = .ok (.iastore, 1) := by decide +kernel
theorem dX4_scan_106 : decode cX4_scan 106 = .ok (.goto 24, 3) := by decide +kernel
theorem dX4_scan_109 : decode cX4_scan 109 = .ok (.aload_n 0, 1) := by decide +kernel
theorem dX4_scan_110 : decode cX4_scan 110 = .ok (.getfield 15, 3) := by decide +kernel
theorem dX4_scan_113 : decode cX4_scan 113 = .ok (.iload_n 1, 1) := by decide +kernel
theorem dX4_scan_114 : decode cX4_scan 114 = .ok (.ldc 76, 2) := by decide +kernel
theorem dX4_scan_116 : decode cX4_scan 116 = .ok (.iload_n 3, 1) := by decide +kernel
theorem dX4_scan_117 : decode cX4_scan 117 = .ok (.i2c, 1) := by decide +kernel
theorem dX4_scan_118 : decode cX4_scan 118 = .ok (.invokevirtual 78, 3) := by decide +kernel
theorem dX4_scan_121 : decode cX4_scan 121 = .ok (.ifCond .lt 7, 3) := by decide +kernel
theorem dX4_scan_124 : decode cX4_scan 124 = .ok (.iload_n 3, 1) := by decide +kernel
theorem dX4_scan_125 : decode cX4_scan 125 = .ok (.goto 4, 3) := by decide +kernel
theorem dX4_scan_128 : decode cX4_scan 128 = .ok (.iconst 1, 1) := by decide +kernel
theorem dX4_scan_129 : decode cX4_scan 129 = .ok (.iastore, 1) := by decide +kernel
theorem dX4_scan_130 : decode cX4_scan 130 = .ok (.aload_n 0, 1) := by decide +kernel
theorem dX4_scan_131 : decode cX4_scan 131 = .ok (.getfield 18, 3) := by decide +kernel
theorem dX4_scan_134 : decode cX4_scan 134 = .ok (.iload_n 1, 1) := by decide +kernel
theorem dX4_scan_135 : decode cX4_scan 135 = .ok (.iload 4, 2) := by decide +kernel
theorem dX4_scan_137 : decode cX4_scan 137 = .ok (.iastore, 1) := by decide +kernel
theorem dX4_scan_138 : decode cX4_scan 138 = .ok (.iinc 1 1, 3) := by decide +kernel
theorem dX4_scan_141 : decode cX4_scan 141 = .ok (.goto (-137), 3) := by decide +kernel
theorem dX4_scan_144 : decode cX4_scan 144 = .ok (.aload_n 0, 1) := by decide +kernel
theorem dX4_scan_145 : decode cX4_scan 145 = .ok (.getfield 15, 3) := by decide +kernel
theorem dX4_scan_148 : decode cX4_scan 148 = .ok (.iload_n 1, 1) := by decide +kernel
theorem dX4_scan_149 : decode cX4_scan 149 = .ok (.iconst 0, 1) := by decide +kernel
theorem dX4_scan_150 : decode cX4_scan 150 = .ok (.iastore, 1) := by decide +kernel
theorem dX4_scan_151 : decode cX4_scan 151 = .ok (.aload_n 0, 1) := by decide +kernel
theorem dX4_scan_152 : decode cX4_scan 152 = .ok (.getfield 18, 3) := by decide +kernel
theorem dX4_scan_155 : decode cX4_scan 155 = .ok (.iload_n 1, 1) := by decide +kernel
theorem dX4_scan_156 : decode cX4_scan 156 = .ok (.aload_n 0, 1) := by decide +kernel
theorem dX4_scan_157 : decode cX4_scan 157 = .ok (.getfield 32, 3) := by decide +kernel
theorem dX4_scan_160 : decode cX4_scan 160 = .ok (.iastore, 1) := by decide +kernel
theorem dX4_scan_161 : decode cX4_scan 161 = .ok (.return_, 1) := by decide +kernel
theorem dX4_isLetter_0 : decode cX4_isLetter 0 = .ok (.iload_n 0, 1) := by decide +kernel
theorem dX4_isLetter_1 : decode cX4_isLetter 1 = .ok (.bipush 97, 2) := by decide +kernel
theorem dX4_isLetter_3 : decode cX4_isLetter 3 = .ok (.if_icmp .lt 9, 3) := by decide +kernel
theorem dX4_isLetter_6 : decode cX4_isLetter 6 = .ok (.iload_n 0, 1) := by decide +kernel
theorem dX4_isLetter_7 : decode cX4_isLetter 7 = .ok (.bipush 122, 2) := by decide +kernel
theorem dX4_isLetter_9 : decode cX4_isLetter 9 = .ok (.if_icmp .le 15, 3) := by decide +kernel
theorem dX4_isLetter_12 : decode cX4_isLetter 12 = .ok (.iload_n 0, 1) := by decide +kernel
theorem dX4_isLetter_13 : decode cX4_isLetter 13 = .ok (.bipush 65, 2) := by decide +kernel
theorem dX4_isLetter_15 : decode cX4_isLetter 15 = .ok (.if_icmp .lt 13, 3) := by decide +kernel
theorem dX4_isLetter_18 : decode cX4_isLetter 18 = .ok (.iload_n 0, 1) := by decide +kernel
theorem dX4_isLetter_19 : decode cX4_isLetter 19 = .ok (.bipush 90, 2) := by decide +kernel
theorem dX4_isLetter_21 : decode cX4_isLetter 21 = .ok (.if_icmp .gt 7, 3) := by decide +kernel
theorem dX4_isLetter_24 : decode cX4_isLetter 24 = .ok (.iconst 1, 1) := by decide +kernel
theorem dX4_isLetter_25 : decode cX4_isLetter 25 = .ok (.goto 4, 3) := by decide +kernel
theorem dX4_isLetter_28 : decode cX4_isLetter 28 = .ok (.iconst 0, 1) := by decide +kernel
theorem dX4_isLetter_29 : decode cX4_isLetter 29 = .ok (.ireturn, 1) := by decide +kernel
theorem dX4_isDigit_0 : decode cX4_isDigit 0 = .ok (.iload_n 0, 1) := by decide +kernel
theorem dX4_isDigit_1 : decode cX4_isDigit 1 = .ok (.bipush 48, 2) := by decide +kernel
theorem dX4_isDigit_3 : decode cX4_isDigit 3 = .ok (.if_icmp .lt 13, 3) := by decide +kernel
theorem dX4_isDigit_6 : decode cX4_isDigit 6 = .ok (.iload_n 0, 1) := by decide +kernel
theorem dX4_isDigit_7 : decode cX4_isDigit 7 = .ok (.bipush 57, 2) := by decide +kernel
theorem dX4_isDigit_9 : decode cX4_isDigit 9 = .ok (.if_icmp .gt 7, 3) := by decide +kernel
theorem dX4_isDigit_12 : decode cX4_isDigit 12 = .ok (.iconst 1, 1) := by decide +kernel
theorem dX4_isDigit_13 : decode cX4_isDigit 13 = .ok (.goto 4, 3) := by decide +kernel
theorem dX4_isDigit_16 : decode cX4_isDigit 16 = .ok (.iconst 0, 1) := by decide +kernel
theorem dX4_isDigit_17 : decode cX4_isDigit 17 = .ok (.ireturn, 1) := by decide +kernel
theorem dX4_runEnd_0 : decode cX4_runEnd 0 = .ok (.iload_n 1, 1) := by decide +kernel
theorem dX4_runEnd_1 : decode cX4_runEnd 1 = .ok (.istore_n 3, 1) := by decide +kernel
theorem dX4_runEnd_2 : decode cX4_runEnd 2 = .ok (.iload_n 3, 1) := by decide +kernel
theorem dX4_runEnd_3 : decode cX4_runEnd 3 = .ok (.aload_n 0, 1) := by decide +kernel
theorem dX4_runEnd_4 : decode cX4_runEnd 4 = .ok (.getfield 32, 3) := by decide +kernel
theorem dX4_runEnd_7 : decode cX4_runEnd 7 = .ok (.if_icmp .ge 40, 3) := by decide +kernel
theorem dX4_runEnd_10 : decode cX4_runEnd 10 = .ok (.iload_n 2, 1) := by decide +kernel
theorem dX4_runEnd_11 : decode cX4_runEnd 11 = .ok (.ifCond .eq 18, 3) := by decide +kernel
theorem dX4_runEnd_14 : decode cX4_runEnd 14 = .ok (.aload_n 0, 1) := by decide +kernel
theorem dX4_runEnd_15 : decode cX4_runEnd 15 = .ok (.getfield 9, 3) := by decide +kernel
theorem dX4_runEnd_18 : decode cX4_runEnd 18 = .ok (.iload_n 3, 1) := by decide +kernel
theorem dX4_runEnd_19 : decode cX4_runEnd 19 = .ok (.iaload, 1) := by decide +kernel
theorem dX4_runEnd_20 : decode cX4_runEnd 20 = .ok (.invokestatic 58, 3) := by decide +kernel
theorem dX4_runEnd_23 : decode cX4_runEnd 23 = .ok (.ifCond .eq 24, 3) := by decide +kernel
theorem dX4_runEnd_26 : decode cX4_runEnd 26 = .ok (.goto 15, 3) := by decide +kernel
theorem dX4_runEnd_29 : decode cX4_runEnd 29 = .ok (.aload_n 0, 1) := by decide +kernel
theorem dX4_runEnd_30 : decode cX4_runEnd 30 = .ok (.getfield 9, 3) := by decide +kernel
theorem dX4_runEnd_33 : decode cX4_runEnd 33 = .ok (.iload_n 3, 1) := by decide +kernel
theorem dX4_runEnd_34 : decode cX4_runEnd 34 = .ok (.iaload, 1) := by decide +kernel
theorem dX4_runEnd_35 : decode cX4_runEnd 35 = .ok (.invokestatic 70, 3) := by decide +kernel
theorem dX4_runEnd_38 : decode cX4_runEnd 38 = .ok (.ifCond .eq 9, 3) := by decide +kernel
theorem dX4_runEnd_41 : decode cX4_runEnd 41 = .ok (.iinc 3 1, 3) := by decide +kernel
theorem dX4_runEnd_44 : decode cX4_runEnd 44 = .ok (.goto (-42), 3) := by decide +kernel
theorem dX4_runEnd_47 : decode cX4_runEnd 47 = .ok (.iload_n 3, 1) := by decide +kernel
theorem dX4_runEnd_48 : decode cX4_runEnd 48 = .ok (.ireturn, 1) := by decide +kernel
theorem dX4_numberKind_0 : decode cX4_numberKind 0 = .ok (.iload_n 2, 1) := by decide +kernel
theorem dX4_numberKind_1 : decode cX4_numberKind 1 = .ok (.iload_n 1, 1) := by decide +kernel
theorem dX4_numberKind_2 : decode cX4_numberKind 2 = .ok (.isub, 1) := by decide +kernel
theorem dX4_numberKind_3 : decode cX4_numberKind 3 = .ok (.iconst 4, 1) := by decide +kernel
theorem dX4_numberKind_4 : decode cX4_numberKind 4 = .ok (.if_icmp .le 5, 3) := by decide +kernel
theorem dX4_numberKind_7 : decode cX4_numberKind 7 = .ok (.iconst 1, 1) := by decide +kernel
theorem dX4_numberKind_8 : decode cX4_numberKind 8 = .ok (.ireturn, 1) := by decide +kernel
theorem dX4_numberKind_9 : decode cX4_numberKind 9 = .ok (.iconst 0, 1) := by decide +kernel
theorem dX4_numberKind_10 : decode cX4_numberKind 10 = .ok (.istore_n 3, 1) := by decide +kernel
theorem dX4_numberKind_11 : decode cX4_numberKind 11 = .ok (.iload_n 1, 1) := by decide +kernel
theorem dX4_numberKind_12 : decode cX4_numberKind 12 = .ok (.istore 4, 2) := by decide +kernel
theorem dX4_numberKind_14 : decode cX4_numberKind 14 = .ok (.iload 4, 2) := by decide +kernel
theorem dX4_numberKind_16 : decode cX4_numberKind 16 = .ok (.iload_n 2, 1) := by decide +kernel
theorem dX4_numberKind_17 : decode cX4_numberKind 17 = .ok (.if_icmp .ge 25, 3) := by decide +kernel
theorem dX4_numberKind_20 : decode cX4_numberKind 20 = .ok (.bipush 10, 2) := by decide +kernel
theorem dX4_numberKind_22 : decode cX4_numberKind 22 = .ok (.iload_n 3, 1) := by decide +kernel
theorem dX4_numberKind_23 : decode cX4_numberKind 23 = .ok (.imul, 1) := by decide +kernel
theorem dX4_numberKind_24 : decode cX4_numberKind 24 = .ok (.aload_n 0, 1) := by decide +kernel
theorem dX4_numberKind_25 : decode cX4_numberKind 25 = .ok (.getfield 9, 3) := by decide +kernel
theorem dX4_numberKind_28 : decode cX4_numberKind 28 = .ok (.iload 4, 2) := by decide +kernel
theorem dX4_numberKind_30 : decode cX4_numberKind 30 = .ok (.iaload, 1) := by decide +kernel
theorem dX4_numberKind_31 : decode cX4_numberKind 31 = .ok (.iadd, 1) := by decide +kernel
theorem dX4_numberKind_32 : decode cX4_numberKind 32 = .ok (.bipush 48, 2) := by decide +kernel
theorem dX4_numberKind_34 : decode cX4_numberKind 34 = .ok (.isub, 1) := by decide +kernel
theorem dX4_numberKind_35 : decode cX4_numberKind 35 = .ok (.istore_n 3, 1) := by decide +kernel
theorem dX4_numberKind_36 : decode cX4_numberKind 36 = .ok (.iinc 4 1, 3) := by decide +kernel
theorem dX4_numberKind_39 : decode cX4_numberKind 39 = .ok (.goto (-25), 3) := by decide +kernel
theorem dX4_numberKind_42 : decode cX4_numberKind 42 = .ok (.sipush 1000, 3) := by decide +kernel
theorem dX4_numberKind_45 : decode cX4_numberKind 45 = .ok (.iload_n 3, 1) := by decide +kernel
theorem dX4_numberKind_46 : decode cX4_numberKind 46 = .ok (.iadd, 1) := by decide +kernel
theorem dX4_numberKind_47 : decode cX4_numberKind 47 = .ok (.ireturn, 1) := by decide +kernel
theorem dX4_wordKind_0 : decode cX4_wordKind 0 = .ok (.aload_n 0, 1) := by decide +kernel
theorem dX4_wordKind_1 : decode cX4_wordKind 1 = .ok (.getfield 35, 3) := by decide +kernel
theorem dX4_wordKind_4 : decode cX4_wordKind 4 = .ok (.ifCond .eq 8, 3) := by decide +kernel
theorem dX4_wordKind_7 : decode cX4_wordKind 7 = .ok (.ldc 84, 2) := by decide +kernel
theorem dX4_wordKind_9 : decode cX4_wordKind 9 = .ok (.goto 5, 3) := by decide +kernel
theorem dX4_wordKind_12 : decode cX4_wordKind 12 = .ok (.ldc 86, 2) := by decide +kernel
theorem dX4_wordKind_14 : decode cX4_wordKind 14 = .ok (.astore_n 3, 1) := by decide +kernel
theorem dX4_wordKind_15 : decode cX4_wordKind 15 = .ok (.sipush 256, 3) := by decide +kernel
theorem dX4_wordKind_18 : decode cX4_wordKind 18 = .ok (.istore 4, 2) := by decide +kernel
theorem dX4_wordKind_20 : decode cX4_wordKind 20 = .ok (.iload_n 1, 1) := by decide +kernel
theorem dX4_wordKind_21 : decode cX4_wordKind 21 = .ok (.istore 5, 2) := by decide +kernel
theorem dX4_wordKind_23 : decode cX4_wordKind 23 = .ok (.iconst 1, 1) := by decide +kernel
theorem dX4_wordKind_24 : decode cX4_wordKind 24 = .ok (.istore 6, 2) := by decide +kernel
theorem dX4_wordKind_26 : decode cX4_wordKind 26 = .ok (.iconst 0, 1) := by decide +kernel
theorem dX4_wordKind_27 : decode cX4_wordKind 27 = .ok (.istore 7, 2) := by decide +kernel
theorem dX4_wordKind_29 : decode cX4_wordKind 29 = .ok (.iload 7, 2) := by decide +kernel
theorem dX4_wordKind_31 : decode cX4_wordKind 31 = .ok (.aload_n 3, 1) := by decide +kernel
theorem dX4_wordKind_32 : decode cX4_wordKind 32 = .ok (.invokevirtual 88, 3) := by decide +kernel
theorem dX4_wordKind_35 : decode cX4_wordKind 35 = .ok (.if_icmp .ge 83, 3) := by decide +kernel
theorem dX4_wordKind_38 : decode cX4_wordKind 38 = .ok (.aload_n 3, 1) := by decide +kernel
theorem dX4_wordKind_39 : decode cX4_wordKind 39 = .ok (.iload 7, 2) := by decide +kernel
theorem dX4_wordKind_41 : decode cX4_wordKind 41 = .ok (.invokevirtual 91, 3) := by decide +kernel
theorem dX4_wordKind_44 : decode cX4_wordKind 44 = .ok (.istore 8, 2) := by decide +kernel
theorem dX4_wordKind_46 : decode cX4_wordKind 46 = .ok (.iload 8, 2) := by decide +kernel
theorem dX4_wordKind_48 : decode cX4_wordKind 48 = .ok (.bipush 32, 2) := by decide +kernel
theorem dX4_wordKind_50 : decode cX4_wordKind 50 = .ok (.if_icmp .eq 39, 3) := by decide +kernel
theorem dX4_wordKind_53 : decode cX4_wordKind 53 = .ok (.iload 6, 2) := by decide +kernel
theorem dX4_wordKind_55 : decode cX4_wordKind 55 = .ok (.ifCond .eq 25, 3) := by decide +kernel
theorem dX4_wordKind_58 : decode cX4_wordKind 58 = .ok (.iload 5, 2) := by decide +kernel
theorem dX4_wordKind_60 : decode cX4_wordKind 60 = .ok (.iload_n 2, 1) := by decide +kernel
theorem dX4_wordKind_61 : decode cX4_wordKind 61 = .ok (.if_icmp .ge 19, 3) := by decide +kernel
theorem dX4_wordKind_64 : decode cX4_wordKind 64 = .ok (.aload_n 0, 1) := by decide +kernel
theorem dX4_wordKind_65 : decode cX4_wordKind 65 = .ok (.getfield 9, 3) := by decide +kernel
theorem dX4_wordKind_68 : decode cX4_wordKind 68 = .ok (.iload 5, 2) := by decide +kernel
theorem dX4_wordKind_70 : decode cX4_wordKind 70 = .ok (.iaload, 1) := by decide +kernel
theorem dX4_wordKind_71 : decode cX4_wordKind 71 = .ok (.iload 8, 2) := by decide +kernel
theorem dX4_wordKind_73 : decode cX4_wordKind 73 = .ok (.if_icmp .ne 7, 3) := by decide +kernel
theorem dX4_wordKind_76 : decode cX4_wordKind 76 = .ok (.iconst 1, 1) := by decide +kernel
theorem dX4_wordKind_77 : decode cX4_wordKind 77 = .ok (.goto 4, 3) := by decide +kernel
theorem dX4_wordKind_80 : decode cX4_wordKind 80 = .ok (.iconst 0, 1) := by decide +kernel
theorem dX4_wordKind_81 : decode cX4_wordKind 81 = .ok (.istore 6, 2) := by decide +kernel
theorem dX4_wordKind_83 : decode cX4_wordKind 83 = .ok (.iinc 5 1, 3) := by decide +kernel
theorem dX4_wordKind_86 : decode cX4_wordKind 86 = .ok (.goto 26, 3) := by decide +kernel
theorem dX4_wordKind_89 : decode cX4_wordKind 89 = .ok (.iload 6, 2) := by decide +kernel
theorem dX4_wordKind_91 : decode cX4_wordKind 91 = .ok (.ifCond .eq 12, 3) := by decide +kernel
theorem dX4_wordKind_94 : decode cX4_wordKind 94 = .ok (.iload 5, 2) := by decide +kernel
theorem dX4_wordKind_96 : decode cX4_wordKind 96 = .ok (.iload_n 2, 1) := by decide +kernel
theorem dX4_wordKind_97 : decode cX4_wordKind 97 = .ok (.if_icmp .ne 6, 3) := by decide +kernel
theorem dX4_wordKind_100 : decode cX4_wordKind 100 = .ok (.iload 4, 2) := by decide +kernel
theorem dX4_wordKind_102 : decode cX4_wordKind 102 = .ok (.ireturn, 1) := by decide +kernel
theorem dX4_wordKind_103 : decode cX4_wordKind 103 = .ok (.iinc 4 1, 3) := by decide +kernel
theorem dX4_wordKind_106 : decode cX4_wordKind 106 = .ok (.iload_n 1, 1) := by decide +kernel
theorem dX4_wordKind_107 : decode cX4_wordKind 107 = .ok (.istore 5, 2) := by decide +kernel
theorem dX4_wordKind_109 : decode cX4_wordKind 109 = .ok (.iconst 1, 1) := by decide +kernel
theorem dX4_wordKind_110 : decode cX4_wordKind 110 = .ok (.istore 6, 2) := by decide +kernel
theorem dX4_wordKind_112 : decode cX4_wordKind 112 = .ok (.iinc 7 1, 3) := by decide +kernel
theorem dX4_wordKind_115 : decode cX4_wordKind 115 = .ok (.goto (-86), 3) := by decide +kernel
theorem dX4_wordKind_118 : decode cX4_wordKind 118 = .ok (.iload 6, 2) := by decide +kernel
theorem dX4_wordKind_120 : decode cX4_wordKind 120 = .ok (.ifCond .eq 14, 3) := by decide +kernel
theorem dX4_wordKind_123 : decode cX4_wordKind 123 = .ok (.iload 5, 2) := by decide +kernel
theorem dX4_wordKind_125 : decode cX4_wordKind 125 = .ok (.iload_n 2, 1) := by decide +kernel
theorem dX4_wordKind_126 : decode cX4_wordKind 126 = .ok (.if_icmp .ne 8, 3) := by decide +kernel
theorem dX4_wordKind_129 : decode cX4_wordKind 129 = .ok (.iload 4, 2) := by decide +kernel
theorem dX4_wordKind_131 : decode cX4_wordKind 131 = .ok (.goto 4, 3) := by decide +kernel
theorem dX4_wordKind_134 : decode cX4_wordKind 134 = .ok (.iconst 1, 1) := by decide +kernel
theorem dX4_wordKind_135 : decode cX4_wordKind 135 = .ok (.ireturn, 1) := by decide +kernel
theorem dX4_advance_0 : decode cX4_advance 0 = .ok (.aload_n 0, 1) := by decide +kernel
theorem dX4_advance_1 : decode cX4_advance 1 = .ok (.getfield 51, 3) := by decide +kernel
theorem dX4_advance_4 : decode cX4_advance 4 = .ok (.ifCond .eq 36, 3) := by decide +kernel
theorem dX4_advance_7 : decode cX4_advance 7 = .ok (.aload_n 0, 1) := by decide +kernel
theorem dX4_advance_8 : decode cX4_advance 8 = .ok (.getfield 48, 3) := by decide +kernel
theorem dX4_advance_11 : decode cX4_advance 11 = .ok (.sipush 600, 3) := by decide +kernel
theorem dX4_advance_14 : decode cX4_advance 14 = .ok (.if_icmp .ge 26, 3) := by decide +kernel
theorem dX4_advance_17 : decode cX4_advance 17 = .ok (.aload_n 0, 1) := by decide +kernel
theorem dX4_advance_18 : decode cX4_advance 18 = .ok (.dup, 1) := by decide +kernel
theorem dX4_advance_19 : decode cX4_advance 19 = .ok (.getfield 48, 3) := by decide +kernel
theorem dX4_advance_22 : decode cX4_advance 22 = .ok (.iconst 1, 1) := by decide +kernel
theorem dX4_advance_23 : decode cX4_advance 23 = .ok (.iadd, 1) := by decide +kernel
theorem dX4_advance_24 : decode cX4_advance 24 = .ok (.putfield 48, 3) := by decide +kernel
theorem dX4_advance_27 : decode cX4_advance 27 = .ok (.aload_n 0, 1) := by decide +kernel
theorem dX4_advance_28 : decode cX4_advance 28 = .ok (.aload_n 0, 1) := by decide +kernel
theorem dX4_advance_29 : decode cX4_advance 29 = .ok (.getfield 15, 3) := by decide +kernel
theorem dX4_advance_32 : decode cX4_advance 32 = .ok (.aload_n 0, 1) := by decide +kernel
theorem dX4_advance_33 : decode cX4_advance 33 = .ok (.getfield 48, 3) := by decide +kernel
theorem dX4_advance_36 : decode cX4_advance 36 = .ok (.iaload, 1) := by decide +kernel
theorem dX4_advance_37 : decode cX4_advance 37 = .ok (.putfield 51, 3) := by decide +kernel
theorem dX4_advance_40 : decode cX4_advance 40 = .ok (.return_, 1) := by decide +kernel
theorem dX4_take_0 : decode cX4_take 0 = .ok (.aload_n 0, 1) := by decide +kernel
theorem dX4_take_1 : decode cX4_take 1 = .ok (.getfield 51, 3) := by decide +kernel
theorem dX4_take_4 : decode cX4_take 4 = .ok (.iload_n 1, 1) := by decide +kernel
theorem dX4_take_5 : decode cX4_take 5 = .ok (.if_icmp .eq 5, 3) := by decide +kernel
theorem dX4_take_8 : decode cX4_take 8 = .ok (.iconst 0, 1) := by decide +kernel
theorem dX4_take_9 : decode cX4_take 9 = .ok (.ireturn, 1) := by decide +kernel
theorem dX4_take_10 : decode cX4_take 10 = .ok (.aload_n 0, 1) := by decide +kernel
theorem dX4_take_11 : decode cX4_take 11 = .ok (.invokevirtual 95, 3) := by decide +kernel
theorem dX4_take_14 : decode cX4_take 14 = .ok (.iconst 1, 1) := by decide +kernel
theorem dX4_take_15 : decode cX4_take 15 = .ok (.ireturn, 1) := by decide +kernel
theorem dX4_numberHere_0 : decode cX4_numberHere 0 = .ok (.aload_n 0, 1) := by decide +kernel
theorem dX4_numberHere_1 : decode cX4_numberHere 1 = .ok (.getfield 51, 3) := by decide +kernel
theorem dX4_numberHere_4 : decode cX4_numberHere 4 = .ok (.sipush 1000, 3) := by decide +kernel
theorem dX4_numberHere_7 : decode cX4_numberHere 7 = .ok (.if_icmp .lt 14, 3) := by decide +kernel
theorem dX4_numberHere_10 : decode cX4_numberHere 10 = .ok (.aload_n 0, 1) := by decide +kernel
theorem dX4_numberHere_11 : decode cX4_numberHere 11 = .ok (.getfield 51, 3) := by decide +kernel
theorem dX4_numberHere_14 : decode cX4_numberHere 14 = .ok (.sipush 1000, 3) := by decide +kernel
theorem dX4_numberHere_17 : decode cX4_numberHere 17 = .ok (.isub, 1) := by decide +kernel
theorem dX4_numberHere_18 : decode cX4_numberHere 18 = .ok (.goto 4, 3) := by decide +kernel
theorem dX4_numberHere_21 : decode cX4_numberHere 21 = .ok (.iconst (-1), 1) := by decide +kernel
theorem dX4_numberHere_22 : decode cX4_numberHere 22 = .ok (.ireturn, 1) := by decide +kernel
theorem dX4_fail_0 : decode cX4_fail 0 = .ok (.aload_n 0, 1) := by decide +kernel
theorem dX4_fail_1 : decode cX4_fail 1 = .ok (.iload_n 1, 1) := by decide +kernel
theorem dX4_fail_2 : decode cX4_fail 2 = .ok (.putfield 39, 3) := by decide +kernel
theorem dX4_fail_5 : decode cX4_fail 5 = .ok (.aload_n 0, 1) := by decide +kernel
theorem dX4_fail_6 : decode cX4_fail 6 = .ok (.aload_n 0, 1) := by decide +kernel
theorem dX4_fail_7 : decode cX4_fail 7 = .ok (.getfield 48, 3) := by decide +kernel
theorem dX4_fail_10 : decode cX4_fail 10 = .ok (.sipush 600, 3) := by decide +kernel
theorem dX4_fail_13 : decode cX4_fail 13 = .ok (.if_icmp .gt 15, 3) := by decide +kernel
theorem dX4_fail_16 : decode cX4_fail 16 = .ok (.aload_n 0, 1) := by decide +kernel
theorem dX4_fail_17 : decode cX4_fail 17 = .ok (.getfield 18, 3) := by decide +kernel
theorem dX4_fail_20 : decode cX4_fail 20 = .ok (.aload_n 0, 1) := by decide +kernel
theorem dX4_fail_21 : decode cX4_fail 21 = .ok (.getfield 48, 3) := by decide +kernel
theorem dX4_fail_24 : decode cX4_fail 24 = .ok (.iaload, 1) := by decide +kernel
theorem dX4_fail_25 : decode cX4_fail 25 = .ok (.goto 4, 3) := by decide +kernel
theorem dX4_fail_28 : decode cX4_fail 28 = .ok (.iconst (-1), 1) := by decide +kernel
theorem dX4_fail_29 : decode cX4_fail 29 = .ok (.putfield 28, 3) := by decide +kernel
theorem dX4_fail_32 : decode cX4_fail 32 = .ok (.iconst 0, 1) := by decide +kernel
theorem dX4_fail_33 : decode cX4_fail 33 = .ok (.ireturn, 1) := by decide +kernel
theorem dX4_headKinds_0 : decode cX4_headKinds 0 = .ok (.aload_n 0, 1) := by decide +kernel
theorem dX4_headKinds_1 : decode cX4_headKinds 1 = .ok (.getfield 35, 3) := by decide +kernel
theorem dX4_headKinds_4 : decode cX4_headKinds 4 = .ok (.ifCond .eq 7, 3) := by decide +kernel
theorem dX4_headKinds_7 : decode cX4_headKinds 7 = .ok (.iconst 4, 1) := by decide +kernel
theorem dX4_headKinds_8 : decode cX4_headKinds 8 = .ok (.goto 4, 3) := by decide +kernel
theorem dX4_headKinds_11 : decode cX4_headKinds 11 = .ok (.iconst 3, 1) := by decide +kernel
theorem dX4_headKinds_12 : decode cX4_headKinds 12 = .ok (.ireturn, 1) := by decide +kernel
theorem dX4_line_0 : decode cX4_line 0 = .ok (.aload_n 0, 1) := by decide +kernel
theorem dX4_line_1 : decode cX4_line 1 = .ok (.getfield 51, 3) := by decide +kernel
theorem dX4_line_4 : decode cX4_line 4 = .ok (.sipush 260, 3) := by decide +kernel
theorem dX4_line_7 : decode cX4_line 7 = .ok (.isub, 1) := by decide +kernel
theorem dX4_line_8 : decode cX4_line 8 = .ok (.istore_n 1, 1) := by decide +kernel
theorem dX4_line_9 : decode cX4_line 9 = .ok (.iload_n 1, 1) := by decide +kernel
theorem dX4_line_10 : decode cX4_line 10 = .ok (.aload_n 0, 1) := by decide +kernel
theorem dX4_line_11 : decode cX4_line 11 = .ok (.invokevirtual 98, 3) := by decide +kernel
theorem dX4_line_14 : decode cX4_line 14 = .ok (.invokestatic 101, 3) := by decide +kernel
theorem dX4_line_17 : decode cX4_line 17 = .ok (.ifCond .ne 9, 3) := by decide +kernel
theorem dX4_line_20 : decode cX4_line 20 = .ok (.aload_n 0, 1) := by decide +kernel
theorem dX4_line_21 : decode cX4_line 21 = .ok (.iconst 1, 1) := by decide +kernel
theorem dX4_line_22 : decode cX4_line 22 = .ok (.invokevirtual 105, 3) := by decide +kernel
theorem dX4_line_25 : decode cX4_line 25 = .ok (.ireturn, 1) := by decide +kernel
theorem dX4_line_26 : decode cX4_line 26 = .ok (.aload_n 0, 1) := by decide +kernel
theorem dX4_line_27 : decode cX4_line 27 = .ok (.getfield 24, 3) := by decide +kernel
theorem dX4_line_30 : decode cX4_line 30 = .ok (.getfield 108, 3) := by decide +kernel
theorem dX4_line_33 : decode cX4_line 33 = .ok (.bipush 16, 2) := by decide +kernel
theorem dX4_line_35 : decode cX4_line 35 = .ok (.if_icmp .lt 9, 3) := by decide +kernel
theorem dX4_line_38 : decode cX4_line 38 = .ok (.aload_n 0, 1) := by decide +kernel
theorem dX4_line_39 : decode cX4_line 39 = .ok (.iconst 3, 1) := by decide +kernel
theorem dX4_line_40 : decode cX4_line 40 = .ok (.invokevirtual 105, 3) := by decide +kernel
theorem dX4_line_43 : decode cX4_line 43 = .ok (.ireturn, 1) := by decide +kernel
theorem dX4_line_44 : decode cX4_line 44 = .ok (.aload_n 0, 1) := by decide +kernel
theorem dX4_line_45 : decode cX4_line 45 = .ok (.invokevirtual 95, 3) := by decide +kernel
theorem dX4_line_48 : decode cX4_line 48 = .ok (.aload_n 0, 1) := by decide +kernel
theorem dX4_line_49 : decode cX4_line 49 = .ok (.getfield 35, 3) := by decide +kernel
theorem dX4_line_52 : decode cX4_line 52 = .ok (.ifCond .eq 14, 3) := by decide +kernel
theorem dX4_line_55 : decode cX4_line 55 = .ok (.aload_n 0, 1) := by decide +kernel
theorem dX4_line_56 : decode cX4_line 56 = .ok (.iload_n 1, 1) := by decide +kernel
theorem dX4_line_57 : decode cX4_line 57 = .ok (.invokevirtual 111, 3) := by decide +kernel
theorem dX4_line_60 : decode cX4_line 60 = .ok (.ifCond .eq 14, 3) := by decide +kernel
theorem dX4_line_63 : decode cX4_line 63 = .ok (.goto 13, 3) := by decide +kernel
theorem dX4_line_66 : decode cX4_line 66 = .ok (.aload_n 0, 1) := by decide +kernel
theorem dX4_line_67 : decode cX4_line 67 = .ok (.iload_n 1, 1) := by decide +kernel
theorem dX4_line_68 : decode cX4_line 68 = .ok (.invokevirtual 114, 3) := by decide +kernel
theorem dX4_line_71 : decode cX4_line 71 = .ok (.ifCond .ne 5, 3) := by decide +kernel
theorem dX4_line_74 : decode cX4_line 74 = .ok (.iconst 0, 1) := by decide +kernel
theorem dX4_line_75 : decode cX4_line 75 = .ok (.ireturn, 1) := by decide +kernel
theorem dX4_line_76 : decode cX4_line 76 = .ok (.aload_n 0, 1) := by decide +kernel
theorem dX4_line_77 : decode cX4_line 77 = .ok (.getfield 24, 3) := by decide +kernel
theorem dX4_line_80 : decode cX4_line 80 = .ok (.invokevirtual 117, 3) := by decide +kernel
theorem dX4_line_83 : decode cX4_line 83 = .ok (.aload_n 0, 1) := by decide +kernel
theorem dX4_line_84 : decode cX4_line 84 = .ok (.sipush 256, 3) := by decide +kernel
theorem dX4_line_87 : decode cX4_line 87 = .ok (.invokevirtual 120, 3) := by decide +kernel
theorem dX4_line_90 : decode cX4_line 90 = .ok (.ifCond .eq 13, 3) := by decide +kernel
theorem dX4_line_93 : decode cX4_line 93 = .ok (.aload_n 0, 1) := by decide +kernel
theorem dX4_line_94 : decode cX4_line 94 = .ok (.iconst 0, 1) := by decide +kernel
theorem dX4_line_95 : decode cX4_line 95 = .ok (.invokevirtual 123, 3) := by decide +kernel
theorem dX4_line_98 : decode cX4_line 98 = .ok (.ifCond .ne 18, 3) := by decide +kernel
theorem dX4_line_101 : decode cX4_line 101 = .ok (.iconst 0, 1) := by decide +kernel
theorem dX4_line_102 : decode cX4_line 102 = .ok (.ireturn, 1) := by decide +kernel
theorem dX4_line_103 : decode cX4_line 103 = .ok (.aload_n 0, 1) := by decide +kernel
theorem dX4_line_104 : decode cX4_line 104 = .ok (.getfield 35, 3) := by decide +kernel
theorem dX4_line_107 : decode cX4_line 107 = .ok (.ifCond .ne 9, 3) := by decide +kernel
theorem dX4_line_110 : decode cX4_line 110 = .ok (.aload_n 0, 1) := by decide +kernel
theorem dX4_line_111 : decode cX4_line 111 = .ok (.iconst 1, 1) := by decide +kernel
theorem dX4_line_112 : decode cX4_line 112 = .ok (.invokevirtual 105, 3) := by decide +kernel
theorem dX4_line_115 : decode cX4_line 115 = .ok (.ireturn, 1) := by decide +kernel
theorem dX4_line_116 : decode cX4_line 116 = .ok (.aload_n 0, 1) := by decide +kernel
theorem dX4_line_117 : decode cX4_line 117 = .ok (.bipush 59, 2) := by decide +kernel
theorem dX4_line_119 : decode cX4_line 119 = .ok (.invokevirtual 120, 3) := by decide +kernel
theorem dX4_line_122 : decode cX4_line 122 = .ok (.ifCond .ne 9, 3) := by decide +kernel
theorem dX4_line_125 : decode cX4_line 125 = .ok (.aload_n 0, 1) := by decide +kernel
theorem dX4_line_126 : decode cX4_line 126 = .ok (.iconst 1, 1) := by decide +kernel
theorem dX4_line_127 : decode cX4_line 127 = .ok (.invokevirtual 105, 3) := by decide +kernel
theorem dX4_line_130 : decode cX4_line 130 = .ok (.ireturn, 1) := by decide +kernel
theorem dX4_line_131 : decode cX4_line 131 = .ok (.aload_n 0, 1) := by decide +kernel
theorem dX4_line_132 : decode cX4_line 132 = .ok (.getfield 24, 3) := by decide +kernel
theorem dX4_line_135 : decode cX4_line 135 = .ok (.invokevirtual 126, 3) := by decide +kernel
theorem dX4_line_138 : decode cX4_line 138 = .ok (.iconst 1, 1) := by decide +kernel
theorem dX4_line_139 : decode cX4_line 139 = .ok (.ireturn, 1) := by decide +kernel
theorem dX4_lawPart_0 : decode cX4_lawPart 0 = .ok (.aload_n 0, 1) := by decide +kernel
theorem dX4_lawPart_1 : decode cX4_lawPart 1 = .ok (.getfield 24, 3) := by decide +kernel
theorem dX4_lawPart_4 : decode cX4_lawPart 4 = .ok (.iload_n 1, 1) := by decide +kernel
theorem dX4_lawPart_5 : decode cX4_lawPart 5 = .ok (.iconst (-1), 1) := by decide +kernel
theorem dX4_lawPart_6 : decode cX4_lawPart 6 = .ok (.invokevirtual 129, 3) := by decide +kernel
theorem dX4_lawPart_9 : decode cX4_lawPart 9 = .ok (.aload_n 0, 1) := by decide +kernel
theorem dX4_lawPart_10 : decode cX4_lawPart 10 = .ok (.invokevirtual 133, 3) := by decide +kernel
theorem dX4_lawPart_13 : decode cX4_lawPart 13 = .ok (.ireturn, 1) := by decide +kernel
theorem dX4_personPart_0 : decode cX4_personPart 0 = .ok (.aload_n 0, 1) := by decide +kernel
theorem dX4_personPart_1 : decode cX4_personPart 1 = .ok (.invokevirtual 136, 3) := by decide +kernel
theorem dX4_personPart_4 : decode cX4_personPart 4 = .ok (.istore_n 2, 1) := by decide +kernel
theorem dX4_personPart_5 : decode cX4_personPart 5 = .ok (.iload_n 2, 1) := by decide +kernel
theorem dX4_personPart_6 : decode cX4_personPart 6 = .ok (.iconst (-1), 1) := by decide +kernel
theorem dX4_personPart_7 : decode cX4_personPart 7 = .ok (.if_icmp .ne 9, 3) := by decide +kernel
theorem dX4_personPart_10 : decode cX4_personPart 10 = .ok (.aload_n 0, 1) := by decide +kernel
theorem dX4_personPart_11 : decode cX4_personPart 11 = .ok (.iconst 1, 1) := by decide +kernel
theorem dX4_personPart_12 : decode cX4_personPart 12 = .ok (.invokevirtual 105, 3) := by decide +kernel
theorem dX4_personPart_15 : decode cX4_personPart 15 = .ok (.ireturn, 1) := by decide +kernel
theorem dX4_personPart_16 : decode cX4_personPart 16 = .ok (.iload_n 2, 1) := by decide +kernel
theorem dX4_personPart_17 : decode cX4_personPart 17 = .ok (.iconst 4, 1) := by decide +kernel
theorem dX4_personPart_18 : decode cX4_personPart 18 = .ok (.if_icmp .lt 9, 3) := by decide +kernel
theorem dX4_personPart_21 : decode cX4_personPart 21 = .ok (.aload_n 0, 1) := by decide +kernel
theorem dX4_personPart_22 : decode cX4_personPart 22 = .ok (.iconst 2, 1) := by decide +kernel
theorem dX4_personPart_23 : decode cX4_personPart 23 = .ok (.invokevirtual 105, 3) := by decide +kernel
theorem dX4_personPart_26 : decode cX4_personPart 26 = .ok (.ireturn, 1) := by decide +kernel
theorem dX4_personPart_27 : decode cX4_personPart 27 = .ok (.aload_n 0, 1) := by decide +kernel
theorem dX4_personPart_28 : decode cX4_personPart 28 = .ok (.invokevirtual 95, 3) := by decide +kernel
theorem dX4_personPart_31 : decode cX4_personPart 31 = .ok (.aload_n 0, 1) := by decide +kernel
theorem dX4_personPart_32 : decode cX4_personPart 32 = .ok (.getfield 24, 3) := by decide +kernel
theorem dX4_personPart_35 : decode cX4_personPart 35 = .ok (.iload_n 1, 1) := by decide +kernel
theorem dX4_personPart_36 : decode cX4_personPart 36 = .ok (.iload_n 2, 1) := by decide +kernel
theorem dX4_personPart_37 : decode cX4_personPart 37 = .ok (.invokevirtual 129, 3) := by decide +kernel
theorem dX4_personPart_40 : decode cX4_personPart 40 = .ok (.iconst 1, 1) := by decide +kernel
theorem dX4_personPart_41 : decode cX4_personPart 41 = .ok (.ireturn, 1) := by decide +kernel
theorem dX4_claims_0 : decode cX4_claims 0 = .ok (.iconst 0, 1) := by decide +kernel
theorem dX4_claims_1 : decode cX4_claims 1 = .ok (.istore_n 2, 1) := by decide +kernel
theorem dX4_claims_2 : decode cX4_claims 2 = .ok (.iconst 0, 1) := by decide +kernel
theorem dX4_claims_3 : decode cX4_claims 3 = .ok (.istore_n 3, 1) := by decide +kernel
theorem dX4_claims_4 : decode cX4_claims 4 = .ok (.iconst 0, 1) := by decide +kernel
theorem dX4_claims_5 : decode cX4_claims 5 = .ok (.istore 4, 2) := by decide +kernel
theorem dX4_claims_7 : decode cX4_claims 7 = .ok (.iload 4, 2) := by decide +kernel
theorem dX4_claims_9 : decode cX4_claims 9 = .ok (.sipush 600, 3) := by decide +kernel
theorem dX4_claims_12 : decode cX4_claims 12 = .ok (.if_icmp .gt 76, 3) := by decide +kernel
theorem dX4_claims_15 : decode cX4_claims 15 = .ok (.aload_n 0, 1) := by decide +kernel
theorem dX4_claims_16 : decode cX4_claims 16 = .ok (.iload_n 1, 1) := by decide +kernel
theorem dX4_claims_17 : decode cX4_claims 17 = .ok (.invokevirtual 139, 3) := by decide +kernel
theorem dX4_claims_20 : decode cX4_claims 20 = .ok (.ifCond .ne 5, 3) := by decide +kernel
theorem dX4_claims_23 : decode cX4_claims 23 = .ok (.iconst 0, 1) := by decide +kernel
theorem dX4_claims_24 : decode cX4_claims 24 = .ok (.ireturn, 1) := by decide +kernel
theorem dX4_claims_25 : decode cX4_claims 25 = .ok (.iload_n 3, 1) := by decide +kernel
theorem dX4_claims_26 : decode cX4_claims 26 = .ok (.ifCond .eq 13, 3) := by decide +kernel
theorem dX4_claims_29 : decode cX4_claims 29 = .ok (.aload_n 0, 1) := by decide +kernel
theorem dX4_claims_30 : decode cX4_claims 30 = .ok (.getfield 24, 3) := by decide +kernel
theorem dX4_claims_33 : decode cX4_claims 33 = .ok (.bipush 10, 2) := by decide +kernel
theorem dX4_claims_35 : decode cX4_claims 35 = .ok (.iconst 0, 1) := by decide +kernel
theorem dX4_claims_36 : decode cX4_claims 36 = .ok (.invokevirtual 142, 3) := by decide +kernel
theorem dX4_claims_39 : decode cX4_claims 39 = .ok (.aload_n 0, 1) := by decide +kernel
theorem dX4_claims_40 : decode cX4_claims 40 = .ok (.sipush 258, 3) := by decide +kernel
theorem dX4_claims_43 : decode cX4_claims 43 = .ok (.invokevirtual 120, 3) := by decide +kernel
theorem dX4_claims_46 : decode cX4_claims 46 = .ok (.istore_n 3, 1) := by decide +kernel
theorem dX4_claims_47 : decode cX4_claims 47 = .ok (.iload_n 3, 1) := by decide +kernel
theorem dX4_claims_48 : decode cX4_claims 48 = .ok (.ifCond .eq 6, 3) := by decide +kernel
theorem dX4_claims_51 : decode cX4_claims 51 = .ok (.goto 31, 3) := by decide +kernel
theorem dX4_claims_54 : decode cX4_claims 54 = .ok (.iload_n 2, 1) := by decide +kernel
theorem dX4_claims_55 : decode cX4_claims 55 = .ok (.ifCond .eq 13, 3) := by decide +kernel
theorem dX4_claims_58 : decode cX4_claims 58 = .ok (.aload_n 0, 1) := by decide +kernel
theorem dX4_claims_59 : decode cX4_claims 59 = .ok (.getfield 24, 3) := by decide +kernel
theorem dX4_claims_62 : decode cX4_claims 62 = .ok (.bipush 11, 2) := by decide +kernel
theorem dX4_claims_64 : decode cX4_claims 64 = .ok (.iconst 0, 1) := by decide +kernel
theorem dX4_claims_65 : decode cX4_claims 65 = .ok (.invokevirtual 142, 3) := by decide +kernel
theorem dX4_claims_68 : decode cX4_claims 68 = .ok (.aload_n 0, 1) := by decide +kernel
theorem dX4_claims_69 : decode cX4_claims 69 = .ok (.sipush 257, 3) := by decide +kernel
theorem dX4_claims_72 : decode cX4_claims 72 = .ok (.invokevirtual 120, 3) := by decide +kernel
theorem dX4_claims_75 : decode cX4_claims 75 = .ok (.istore_n 2, 1) := by decide +kernel
theorem dX4_claims_76 : decode cX4_claims 76 = .ok (.iload_n 2, 1) := by decide +kernel
theorem dX4_claims_77 : decode cX4_claims 77 = .ok (.ifCond .ne 5, 3) := by decide +kernel
theorem dX4_claims_80 : decode cX4_claims 80 = .ok (.iconst 1, 1) := by decide +kernel
theorem dX4_claims_81 : decode cX4_claims 81 = .ok (.ireturn, 1) := by decide +kernel
theorem dX4_claims_82 : decode cX4_claims 82 = .ok (.iinc 4 1, 3) := by decide +kernel
theorem dX4_claims_85 : decode cX4_claims 85 = .ok (.goto (-78), 3) := by decide +kernel
theorem dX4_claims_88 : decode cX4_claims 88 = .ok (.iconst 1, 1) := by decide +kernel
theorem dX4_claims_89 : decode cX4_claims 89 = .ok (.ireturn, 1) := by decide +kernel
theorem dX4_claim_0 : decode cX4_claim 0 = .ok (.aload_n 0, 1) := by decide +kernel
theorem dX4_claim_1 : decode cX4_claim 1 = .ok (.getfield 51, 3) := by decide +kernel
theorem dX4_claim_4 : decode cX4_claim 4 = .ok (.sipush 259, 3) := by decide +kernel
theorem dX4_claim_7 : decode cX4_claim 7 = .ok (.if_icmp .eq 12, 3) := by decide +kernel
theorem dX4_claim_10 : decode cX4_claim 10 = .ok (.aload_n 0, 1) := by decide +kernel
theorem dX4_claim_11 : decode cX4_claim 11 = .ok (.getfield 51, 3) := by decide +kernel
theorem dX4_claim_14 : decode cX4_claim 14 = .ok (.bipush 40, 2) := by decide +kernel
theorem dX4_claim_16 : decode cX4_claim 16 = .ok (.if_icmp .ne 25, 3) := by decide +kernel
theorem dX4_claim_19 : decode cX4_claim 19 = .ok (.iload_n 1, 1) := by decide +kernel
theorem dX4_claim_20 : decode cX4_claim 20 = .ok (.bipush 8, 2) := by decide +kernel
theorem dX4_claim_22 : decode cX4_claim 22 = .ok (.if_icmp .ge 13, 3) := by decide +kernel
theorem dX4_claim_25 : decode cX4_claim 25 = .ok (.aload_n 0, 1) := by decide +kernel
theorem dX4_claim_26 : decode cX4_claim 26 = .ok (.iload_n 1, 1) := by decide +kernel
theorem dX4_claim_27 : decode cX4_claim 27 = .ok (.iconst 1, 1) := by decide +kernel
theorem dX4_claim_28 : decode cX4_claim 28 = .ok (.iadd, 1) := by decide +kernel
theorem dX4_claim_29 : decode cX4_claim 29 = .ok (.invokevirtual 145, 3) := by decide +kernel
theorem dX4_claim_32 : decode cX4_claim 32 = .ok (.goto 8, 3) := by decide +kernel
theorem dX4_claim_35 : decode cX4_claim 35 = .ok (.aload_n 0, 1) := by decide +kernel
theorem dX4_claim_36 : decode cX4_claim 36 = .ok (.iconst 3, 1) := by decide +kernel
theorem dX4_claim_37 : decode cX4_claim 37 = .ok (.invokevirtual 105, 3) := by decide +kernel
theorem dX4_claim_40 : decode cX4_claim 40 = .ok (.ireturn, 1) := by decide +kernel
theorem dX4_claim_41 : decode cX4_claim 41 = .ok (.aload_n 0, 1) := by decide +kernel
theorem dX4_claim_42 : decode cX4_claim 42 = .ok (.invokevirtual 133, 3) := by decide +kernel
theorem dX4_claim_45 : decode cX4_claim 45 = .ok (.ifCond .ne 5, 3) := by decide +kernel
theorem dX4_claim_48 : decode cX4_claim 48 = .ok (.iconst 0, 1) := by decide +kernel
theorem dX4_claim_49 : decode cX4_claim 49 = .ok (.ireturn, 1) := by decide +kernel
theorem dX4_claim_50 : decode cX4_claim 50 = .ok (.bipush 7, 2) := by decide +kernel
theorem dX4_claim_52 : decode cX4_claim 52 = .ok (.aload_n 0, 1) := by decide +kernel
theorem dX4_claim_53 : decode cX4_claim 53 = .ok (.getfield 51, 3) := by decide +kernel
theorem dX4_claim_56 : decode cX4_claim 56 = .ok (.iadd, 1) := by decide +kernel
theorem dX4_claim_57 : decode cX4_claim 57 = .ok (.bipush 60, 2) := by decide +kernel
theorem dX4_claim_59 : decode cX4_claim 59 = .ok (.isub, 1) := by decide +kernel
theorem dX4_claim_60 : decode cX4_claim 60 = .ok (.istore_n 2, 1) := by decide +kernel
theorem dX4_claim_61 : decode cX4_claim 61 = .ok (.aload_n 0, 1) := by decide +kernel
theorem dX4_claim_62 : decode cX4_claim 62 = .ok (.getfield 51, 3) := by decide +kernel
theorem dX4_claim_65 : decode cX4_claim 65 = .ok (.bipush 60, 2) := by decide +kernel
theorem dX4_claim_67 : decode cX4_claim 67 = .ok (.if_icmp .lt 12, 3) := by decide +kernel
theorem dX4_claim_70 : decode cX4_claim 70 = .ok (.aload_n 0, 1) := by decide +kernel
theorem dX4_claim_71 : decode cX4_claim 71 = .ok (.getfield 51, 3) := by decide +kernel
theorem dX4_claim_74 : decode cX4_claim 74 = .ok (.bipush 62, 2) := by decide +kernel
theorem dX4_claim_76 : decode cX4_claim 76 = .ok (.if_icmp .le 9, 3) := by decide +kernel
theorem dX4_claim_79 : decode cX4_claim 79 = .ok (.aload_n 0, 1) := by decide +kernel
theorem dX4_claim_80 : decode cX4_claim 80 = .ok (.iconst 1, 1) := by decide +kernel
theorem dX4_claim_81 : decode cX4_claim 81 = .ok (.invokevirtual 105, 3) := by decide +kernel
theorem dX4_claim_84 : decode cX4_claim 84 = .ok (.ireturn, 1) := by decide +kernel
theorem dX4_claim_85 : decode cX4_claim 85 = .ok (.aload_n 0, 1) := by decide +kernel
theorem dX4_claim_86 : decode cX4_claim 86 = .ok (.invokevirtual 95, 3) := by decide +kernel
theorem dX4_claim_89 : decode cX4_claim 89 = .ok (.aload_n 0, 1) := by decide +kernel
theorem dX4_claim_90 : decode cX4_claim 90 = .ok (.invokevirtual 133, 3) := by decide +kernel
theorem dX4_claim_93 : decode cX4_claim 93 = .ok (.ifCond .ne 5, 3) := by decide +kernel
theorem dX4_claim_96 : decode cX4_claim 96 = .ok (.iconst 0, 1) := by decide +kernel
theorem dX4_claim_97 : decode cX4_claim 97 = .ok (.ireturn, 1) := by decide +kernel
theorem dX4_claim_98 : decode cX4_claim 98 = .ok (.aload_n 0, 1) := by decide +kernel
theorem dX4_claim_99 : decode cX4_claim 99 = .ok (.getfield 24, 3) := by decide +kernel
theorem dX4_claim_102 : decode cX4_claim 102 = .ok (.iload_n 2, 1) := by decide +kernel
theorem dX4_claim_103 : decode cX4_claim 103 = .ok (.iconst 0, 1) := by decide +kernel
theorem dX4_claim_104 : decode cX4_claim 104 = .ok (.invokevirtual 142, 3) := by decide +kernel
theorem dX4_claim_107 : decode cX4_claim 107 = .ok (.iconst 1, 1) := by decide +kernel
theorem dX4_claim_108 : decode cX4_claim 108 = .ok (.ireturn, 1) := by decide +kernel
theorem dX4_opened_0 : decode cX4_opened 0 = .ok (.aload_n 0, 1) := by decide +kernel
theorem dX4_opened_1 : decode cX4_opened 1 = .ok (.bipush 40, 2) := by decide +kernel
theorem dX4_opened_3 : decode cX4_opened 3 = .ok (.invokevirtual 120, 3) := by decide +kernel
theorem dX4_opened_6 : decode cX4_opened 6 = .ok (.ifCond .eq 34, 3) := by decide +kernel
theorem dX4_opened_9 : decode cX4_opened 9 = .ok (.aload_n 0, 1) := by decide +kernel
theorem dX4_opened_10 : decode cX4_opened 10 = .ok (.iload_n 1, 1) := by decide +kernel
theorem dX4_opened_11 : decode cX4_opened 11 = .ok (.invokevirtual 123, 3) := by decide +kernel
theorem dX4_opened_14 : decode cX4_opened 14 = .ok (.ifCond .eq 24, 3) := by decide +kernel
theorem dX4_opened_17 : decode cX4_opened 17 = .ok (.aload_n 0, 1) := by decide +kernel
theorem dX4_opened_18 : decode cX4_opened 18 = .ok (.bipush 41, 2) := by decide +kernel
theorem dX4_opened_20 : decode cX4_opened 20 = .ok (.invokevirtual 120, 3) := by decide +kernel
theorem dX4_opened_23 : decode cX4_opened 23 = .ok (.ifCond .ne 11, 3) := by decide +kernel
theorem dX4_opened_26 : decode cX4_opened 26 = .ok (.aload_n 0, 1) := by decide +kernel
theorem dX4_opened_27 : decode cX4_opened 27 = .ok (.iconst 1, 1) := by decide +kernel
theorem dX4_opened_28 : decode cX4_opened 28 = .ok (.invokevirtual 105, 3) := by decide +kernel
theorem dX4_opened_31 : decode cX4_opened 31 = .ok (.ifCond .eq 7, 3) := by decide +kernel
theorem dX4_opened_34 : decode cX4_opened 34 = .ok (.iconst 1, 1) := by decide +kernel
theorem dX4_opened_35 : decode cX4_opened 35 = .ok (.goto 4, 3) := by decide +kernel
theorem dX4_opened_38 : decode cX4_opened 38 = .ok (.iconst 0, 1) := by decide +kernel
theorem dX4_opened_39 : decode cX4_opened 39 = .ok (.ireturn, 1) := by decide +kernel
theorem dX4_opened_40 : decode cX4_opened 40 = .ok (.aload_n 0, 1) := by decide +kernel
theorem dX4_opened_41 : decode cX4_opened 41 = .ok (.invokevirtual 95, 3) := by decide +kernel
theorem dX4_opened_44 : decode cX4_opened 44 = .ok (.aload_n 0, 1) := by decide +kernel
theorem dX4_opened_45 : decode cX4_opened 45 = .ok (.iload_n 1, 1) := by decide +kernel
theorem dX4_opened_46 : decode cX4_opened 46 = .ok (.invokevirtual 139, 3) := by decide +kernel
theorem dX4_opened_49 : decode cX4_opened 49 = .ok (.ifCond .ne 5, 3) := by decide +kernel
theorem dX4_opened_52 : decode cX4_opened 52 = .ok (.iconst 0, 1) := by decide +kernel
theorem dX4_opened_53 : decode cX4_opened 53 = .ok (.ireturn, 1) := by decide +kernel
theorem dX4_opened_54 : decode cX4_opened 54 = .ok (.aload_n 0, 1) := by decide +kernel
theorem dX4_opened_55 : decode cX4_opened 55 = .ok (.getfield 24, 3) := by decide +kernel
theorem dX4_opened_58 : decode cX4_opened 58 = .ok (.iconst 3, 1) := by decide +kernel
theorem dX4_opened_59 : decode cX4_opened 59 = .ok (.iconst 0, 1) := by decide +kernel
theorem dX4_opened_60 : decode cX4_opened 60 = .ok (.invokevirtual 142, 3) := by decide +kernel
theorem dX4_opened_63 : decode cX4_opened 63 = .ok (.iconst 1, 1) := by decide +kernel
theorem dX4_opened_64 : decode cX4_opened 64 = .ok (.ireturn, 1) := by decide +kernel
theorem dX4_sum_0 : decode cX4_sum 0 = .ok (.iconst (-1), 1) := by decide +kernel
theorem dX4_sum_1 : decode cX4_sum 1 = .ok (.istore_n 1, 1) := by decide +kernel
theorem dX4_sum_2 : decode cX4_sum 2 = .ok (.iconst 0, 1) := by decide +kernel
theorem dX4_sum_3 : decode cX4_sum 3 = .ok (.istore_n 2, 1) := by decide +kernel
theorem dX4_sum_4 : decode cX4_sum 4 = .ok (.iconst 0, 1) := by decide +kernel
theorem dX4_sum_5 : decode cX4_sum 5 = .ok (.istore_n 3, 1) := by decide +kernel
theorem dX4_sum_6 : decode cX4_sum 6 = .ok (.iload_n 3, 1) := by decide +kernel
theorem dX4_sum_7 : decode cX4_sum 7 = .ok (.sipush 600, 3) := by decide +kernel
theorem dX4_sum_10 : decode cX4_sum 10 = .ok (.if_icmp .gt 104, 3) := by decide +kernel
theorem dX4_sum_13 : decode cX4_sum 13 = .ok (.aload_n 0, 1) := by decide +kernel
theorem dX4_sum_14 : decode cX4_sum 14 = .ok (.invokevirtual 148, 3) := by decide +kernel
theorem dX4_sum_17 : decode cX4_sum 17 = .ok (.ifCond .ne 5, 3) := by decide +kernel
theorem dX4_sum_20 : decode cX4_sum 20 = .ok (.iconst 0, 1) := by decide +kernel
theorem dX4_sum_21 : decode cX4_sum 21 = .ok (.ireturn, 1) := by decide +kernel
theorem dX4_sum_22 : decode cX4_sum 22 = .ok (.iload_n 2, 1) := by decide +kernel
theorem dX4_sum_23 : decode cX4_sum 23 = .ok (.ifCond .eq 13, 3) := by decide +kernel
theorem dX4_sum_26 : decode cX4_sum 26 = .ok (.aload_n 0, 1) := by decide +kernel
theorem dX4_sum_27 : decode cX4_sum 27 = .ok (.getfield 24, 3) := by decide +kernel
theorem dX4_sum_30 : decode cX4_sum 30 = .ok (.bipush 6, 2) := by decide +kernel
theorem dX4_sum_32 : decode cX4_sum 32 = .ok (.iconst 0, 1) := by decide +kernel
theorem dX4_sum_33 : decode cX4_sum 33 = .ok (.invokevirtual 142, 3) := by decide +kernel
theorem dX4_sum_36 : decode cX4_sum 36 = .ok (.aload_n 0, 1) := by decide +kernel
theorem dX4_sum_37 : decode cX4_sum 37 = .ok (.invokevirtual 151, 3) := by decide +kernel
theorem dX4_sum_40 : decode cX4_sum 40 = .ok (.ifCond .ne 5, 3) := by decide +kernel
theorem dX4_sum_43 : decode cX4_sum 43 = .ok (.iconst 0, 1) := by decide +kernel
theorem dX4_sum_44 : decode cX4_sum 44 = .ok (.ireturn, 1) := by decide +kernel
theorem dX4_sum_45 : decode cX4_sum 45 = .ok (.aload_n 0, 1) := by decide +kernel
theorem dX4_sum_46 : decode cX4_sum 46 = .ok (.bipush 42, 2) := by decide +kernel
theorem dX4_sum_48 : decode cX4_sum 48 = .ok (.invokevirtual 120, 3) := by decide +kernel
theorem dX4_sum_51 : decode cX4_sum 51 = .ok (.istore_n 2, 1) := by decide +kernel
theorem dX4_sum_52 : decode cX4_sum 52 = .ok (.iload_n 2, 1) := by decide +kernel
theorem dX4_sum_53 : decode cX4_sum 53 = .ok (.ifCond .eq 6, 3) := by decide +kernel
theorem dX4_sum_56 : decode cX4_sum 56 = .ok (.goto 52, 3) := by decide +kernel
theorem dX4_sum_59 : decode cX4_sum 59 = .ok (.iload_n 1, 1) := by decide +kernel
theorem dX4_sum_60 : decode cX4_sum 60 = .ok (.iconst (-1), 1) := by decide +kernel
theorem dX4_sum_61 : decode cX4_sum 61 = .ok (.if_icmp .eq 12, 3) := by decide +kernel
theorem dX4_sum_64 : decode cX4_sum 64 = .ok (.aload_n 0, 1) := by decide +kernel
theorem dX4_sum_65 : decode cX4_sum 65 = .ok (.getfield 24, 3) := by decide +kernel
theorem dX4_sum_68 : decode cX4_sum 68 = .ok (.iload_n 1, 1) := by decide +kernel
theorem dX4_sum_69 : decode cX4_sum 69 = .ok (.iconst 0, 1) := by decide +kernel
theorem dX4_sum_70 : decode cX4_sum 70 = .ok (.invokevirtual 142, 3) := by decide +kernel
theorem dX4_sum_73 : decode cX4_sum 73 = .ok (.aload_n 0, 1) := by decide +kernel
theorem dX4_sum_74 : decode cX4_sum 74 = .ok (.getfield 51, 3) := by decide +kernel
theorem dX4_sum_77 : decode cX4_sum 77 = .ok (.bipush 43, 2) := by decide +kernel
theorem dX4_sum_79 : decode cX4_sum 79 = .ok (.if_icmp .ne 7, 3) := by decide +kernel
theorem dX4_sum_82 : decode cX4_sum 82 = .ok (.iconst 4, 1) := by decide +kernel
theorem dX4_sum_83 : decode cX4_sum 83 = .ok (.goto 4, 3) := by decide +kernel
theorem dX4_sum_86 : decode cX4_sum 86 = .ok (.iconst 5, 1) := by decide +kernel
theorem dX4_sum_87 : decode cX4_sum 87 = .ok (.istore_n 1, 1) := by decide +kernel
theorem dX4_sum_88 : decode cX4_sum 88 = .ok (.aload_n 0, 1) := by decide +kernel
theorem dX4_sum_89 : decode cX4_sum 89 = .ok (.bipush 43, 2) := by decide +kernel
theorem dX4_sum_91 : decode cX4_sum 91 = .ok (.invokevirtual 120, 3) := by decide +kernel
theorem dX4_sum_94 : decode cX4_sum 94 = .ok (.ifCond .ne 14, 3) := by decide +kernel
theorem dX4_sum_97 : decode cX4_sum 97 = .ok (.aload_n 0, 1) := by decide +kernel
theorem dX4_sum_98 : decode cX4_sum 98 = .ok (.bipush 45, 2) := by decide +kernel
theorem dX4_sum_100 : decode cX4_sum 100 = .ok (.invokevirtual 120, 3) := by decide +kernel
theorem dX4_sum_103 : decode cX4_sum 103 = .ok (.ifCond .ne 5, 3) := by decide +kernel
theorem dX4_sum_106 : decode cX4_sum 106 = .ok (.iconst 1, 1) := by decide +kernel
theorem dX4_sum_107 : decode cX4_sum 107 = .ok (.ireturn, 1) := by decide +kernel
theorem dX4_sum_108 : decode cX4_sum 108 = .ok (.iinc 3 1, 3) := by decide +kernel
theorem dX4_sum_111 : decode cX4_sum 111 = .ok (.goto (-105), 3) := by decide +kernel
theorem dX4_sum_114 : decode cX4_sum 114 = .ok (.iconst 1, 1) := by decide +kernel
theorem dX4_sum_115 : decode cX4_sum 115 = .ok (.ireturn, 1) := by decide +kernel
theorem dX4_unit_0 : decode cX4_unit 0 = .ok (.aload_n 0, 1) := by decide +kernel
theorem dX4_unit_1 : decode cX4_unit 1 = .ok (.getfield 51, 3) := by decide +kernel
theorem dX4_unit_4 : decode cX4_unit 4 = .ok (.sipush 260, 3) := by decide +kernel
theorem dX4_unit_7 : decode cX4_unit 7 = .ok (.isub, 1) := by decide +kernel
theorem dX4_unit_8 : decode cX4_unit 8 = .ok (.aload_n 0, 1) := by decide +kernel
theorem dX4_unit_9 : decode cX4_unit 9 = .ok (.invokevirtual 98, 3) := by decide +kernel
theorem dX4_unit_12 : decode cX4_unit 12 = .ok (.isub, 1) := by decide +kernel
theorem dX4_unit_13 : decode cX4_unit 13 = .ok (.istore_n 1, 1) := by decide +kernel
theorem dX4_unit_14 : decode cX4_unit 14 = .ok (.aload_n 0, 1) := by decide +kernel
theorem dX4_unit_15 : decode cX4_unit 15 = .ok (.invokevirtual 136, 3) := by decide +kernel
theorem dX4_unit_18 : decode cX4_unit 18 = .ok (.iconst (-1), 1) := by decide +kernel
theorem dX4_unit_19 : decode cX4_unit 19 = .ok (.if_icmp .eq 18, 3) := by decide +kernel
theorem dX4_unit_22 : decode cX4_unit 22 = .ok (.aload_n 0, 1) := by decide +kernel
theorem dX4_unit_23 : decode cX4_unit 23 = .ok (.getfield 24, 3) := by decide +kernel
theorem dX4_unit_26 : decode cX4_unit 26 = .ok (.iconst 0, 1) := by decide +kernel
theorem dX4_unit_27 : decode cX4_unit 27 = .ok (.aload_n 0, 1) := by decide +kernel
theorem dX4_unit_28 : decode cX4_unit 28 = .ok (.invokevirtual 136, 3) := by decide +kernel
theorem dX4_unit_31 : decode cX4_unit 31 = .ok (.invokevirtual 142, 3) := by decide +kernel
theorem dX4_unit_34 : decode cX4_unit 34 = .ok (.goto 25, 3) := by decide +kernel
theorem dX4_unit_37 : decode cX4_unit 37 = .ok (.iload_n 1, 1) := by decide +kernel
theorem dX4_unit_38 : decode cX4_unit 38 = .ok (.ifCond .lt 15, 3) := by decide +kernel
theorem dX4_unit_41 : decode cX4_unit 41 = .ok (.aload_n 0, 1) := by decide +kernel
theorem dX4_unit_42 : decode cX4_unit 42 = .ok (.getfield 24, 3) := by decide +kernel
theorem dX4_unit_45 : decode cX4_unit 45 = .ok (.iconst 1, 1) := by decide +kernel
theorem dX4_unit_46 : decode cX4_unit 46 = .ok (.iload_n 1, 1) := by decide +kernel
theorem dX4_unit_47 : decode cX4_unit 47 = .ok (.invokevirtual 142, 3) := by decide +kernel
theorem dX4_unit_50 : decode cX4_unit 50 = .ok (.goto 9, 3) := by decide +kernel
theorem dX4_unit_53 : decode cX4_unit 53 = .ok (.aload_n 0, 1) := by decide +kernel
theorem dX4_unit_54 : decode cX4_unit 54 = .ok (.iconst 1, 1) := by decide +kernel
theorem dX4_unit_55 : decode cX4_unit 55 = .ok (.invokevirtual 105, 3) := by decide +kernel
theorem dX4_unit_58 : decode cX4_unit 58 = .ok (.ireturn, 1) := by decide +kernel
theorem dX4_unit_59 : decode cX4_unit 59 = .ok (.aload_n 0, 1) := by decide +kernel
theorem dX4_unit_60 : decode cX4_unit 60 = .ok (.invokevirtual 95, 3) := by decide +kernel
theorem dX4_unit_63 : decode cX4_unit 63 = .ok (.iconst 1, 1) := by decide +kernel
theorem dX4_unit_64 : decode cX4_unit 64 = .ok (.ireturn, 1) := by decide +kernel
theorem dX4_parts_0 : decode cX4_parts 0 = .ok (.iconst 0, 1) := by decide +kernel
theorem dX4_parts_1 : decode cX4_parts 1 = .ok (.istore_n 1, 1) := by decide +kernel
theorem dX4_parts_2 : decode cX4_parts 2 = .ok (.iload_n 1, 1) := by decide +kernel
theorem dX4_parts_3 : decode cX4_parts 3 = .ok (.sipush 600, 3) := by decide +kernel
theorem dX4_parts_6 : decode cX4_parts 6 = .ok (.if_icmp .gt 61, 3) := by decide +kernel
theorem dX4_parts_9 : decode cX4_parts 9 = .ok (.aload_n 0, 1) := by decide +kernel
theorem dX4_parts_10 : decode cX4_parts 10 = .ok (.getfield 51, 3) := by decide +kernel
theorem dX4_parts_13 : decode cX4_parts 13 = .ok (.bipush 47, 2) := by decide +kernel
theorem dX4_parts_15 : decode cX4_parts 15 = .ok (.if_icmp .ne 52, 3) := by decide +kernel
theorem dX4_parts_18 : decode cX4_parts 18 = .ok (.aload_n 0, 1) := by decide +kernel
theorem dX4_parts_19 : decode cX4_parts 19 = .ok (.invokevirtual 95, 3) := by decide +kernel
theorem dX4_parts_22 : decode cX4_parts 22 = .ok (.aload_n 0, 1) := by decide +kernel
theorem dX4_parts_23 : decode cX4_parts 23 = .ok (.invokevirtual 136, 3) := by decide +kernel
theorem dX4_parts_26 : decode cX4_parts 26 = .ok (.istore_n 2, 1) := by decide +kernel
theorem dX4_parts_27 : decode cX4_parts 27 = .ok (.iload_n 2, 1) := by decide +kernel
theorem dX4_parts_28 : decode cX4_parts 28 = .ok (.iconst (-1), 1) := by decide +kernel
theorem dX4_parts_29 : decode cX4_parts 29 = .ok (.if_icmp .ne 9, 3) := by decide +kernel
theorem dX4_parts_32 : decode cX4_parts 32 = .ok (.aload_n 0, 1) := by decide +kernel
theorem dX4_parts_33 : decode cX4_parts 33 = .ok (.iconst 1, 1) := by decide +kernel
theorem dX4_parts_34 : decode cX4_parts 34 = .ok (.invokevirtual 105, 3) := by decide +kernel
theorem dX4_parts_37 : decode cX4_parts 37 = .ok (.ireturn, 1) := by decide +kernel
theorem dX4_parts_38 : decode cX4_parts 38 = .ok (.iload_n 2, 1) := by decide +kernel
theorem dX4_parts_39 : decode cX4_parts 39 = .ok (.ifCond .ne 9, 3) := by decide +kernel
theorem dX4_parts_42 : decode cX4_parts 42 = .ok (.aload_n 0, 1) := by decide +kernel
theorem dX4_parts_43 : decode cX4_parts 43 = .ok (.iconst 2, 1) := by decide +kernel
theorem dX4_parts_44 : decode cX4_parts 44 = .ok (.invokevirtual 105, 3) := by decide +kernel
theorem dX4_parts_47 : decode cX4_parts 47 = .ok (.ireturn, 1) := by decide +kernel
theorem dX4_parts_48 : decode cX4_parts 48 = .ok (.aload_n 0, 1) := by decide +kernel
theorem dX4_parts_49 : decode cX4_parts 49 = .ok (.invokevirtual 95, 3) := by decide +kernel
theorem dX4_parts_52 : decode cX4_parts 52 = .ok (.aload_n 0, 1) := by decide +kernel
theorem dX4_parts_53 : decode cX4_parts 53 = .ok (.getfield 24, 3) := by decide +kernel
theorem dX4_parts_56 : decode cX4_parts 56 = .ok (.iconst 2, 1) := by decide +kernel
theorem dX4_parts_57 : decode cX4_parts 57 = .ok (.iload_n 2, 1) := by decide +kernel
theorem dX4_parts_58 : decode cX4_parts 58 = .ok (.invokevirtual 142, 3) := by decide +kernel
theorem dX4_parts_61 : decode cX4_parts 61 = .ok (.iinc 1 1, 3) := by decide +kernel
theorem dX4_parts_64 : decode cX4_parts 64 = .ok (.goto (-62), 3) := by decide +kernel
theorem dX4_parts_67 : decode cX4_parts 67 = .ok (.iconst 1, 1) := by decide +kernel
theorem dX4_parts_68 : decode cX4_parts 68 = .ok (.ireturn, 1) := by decide +kernel
theorem dX5_init_0 : decode cX5_init 0 = .ok (.aload_n 0, 1) := by decide +kernel
theorem dX5_init_1 : decode cX5_init 1 = .ok (.invokespecial 3, 3) := by decide +kernel
theorem dX5_init_4 : decode cX5_init 4 = .ok (.aload_n 0, 1) := by decide +kernel
theorem dX5_init_5 : decode cX5_init 5 = .ok (.new 9, 3) := by decide +kernel
theorem dX5_init_8 : decode cX5_init 8 = .ok (.dup, 1) := by decide +kernel
theorem dX5_init_9 : decode cX5_init 9 = .ok (.bipush 24, 2) := by decide +kernel
theorem dX5_init_11 : decode cX5_init 11 = .ok (.bipush 6, 2) := by decide +kernel
theorem dX5_init_13 : decode cX5_init 13 = .ok (.iconst 0, 1) := by decide +kernel
theorem dX5_init_14 : decode cX5_init 14 = .ok (.invokespecial 11, 3) := by decide +kernel
theorem dX5_init_17 : decode cX5_init 17 = .ok (.putfield 14, 3) := by decide +kernel
theorem dX5_init_20 : decode cX5_init 20 = .ok (.aload_n 0, 1) := by decide +kernel
theorem dX5_init_21 : decode cX5_init 21 = .ok (.bipush 7, 2) := by decide +kernel
theorem dX5_init_23 : decode cX5_init 23 = .ok (.newarray .int, 2) := by decide +kernel
theorem dX5_init_25 : decode cX5_init 25 = .ok (.dup, 1) := by decide +kernel
theorem dX5_init_26 : decode cX5_init 26 = .ok (.iconst 0, 1) := by decide +kernel
theorem dX5_init_27 : decode cX5_init 27 = .ok (.iconst 0, 1) := by decide +kernel
theorem dX5_init_28 : decode cX5_init 28 = .ok (.iastore, 1) := by decide +kernel
theorem dX5_init_29 : decode cX5_init 29 = .ok (.dup, 1) := by decide +kernel
theorem dX5_init_30 : decode cX5_init 30 = .ok (.iconst 1, 1) := by decide +kernel
theorem dX5_init_31 : decode cX5_init 31 = .ok (.bipush 20, 2) := by decide +kernel
theorem dX5_init_33 : decode cX5_init 33 = .ok (.iastore, 1) := by decide +kernel
theorem dX5_init_34 : decode cX5_init 34 = .ok (.dup, 1) := by decide +kernel
theorem dX5_init_35 : decode cX5_init 35 = .ok (.iconst 2, 1) := by decide +kernel
theorem dX5_init_36 : decode cX5_init 36 = .ok (.bipush 40, 2) := by decide +kernel
theorem dX5_init_38 : decode cX5_init 38 = .ok (.iastore, 1) := by decide +kernel
theorem dX5_init_39 : decode cX5_init 39 = .ok (.dup, 1) := by decide +kernel
theorem dX5_init_40 : decode cX5_init 40 = .ok (.iconst 3, 1) := by decide +kernel
theorem dX5_init_41 : decode cX5_init 41 = .ok (.bipush 50, 2) := by decide +kernel
theorem dX5_init_43 : decode cX5_init 43 = .ok (.iastore, 1) := by decide +kernel
theorem dX5_init_44 : decode cX5_init 44 = .ok (.dup, 1) := by decide +kernel
theorem dX5_init_45 : decode cX5_init 45 = .ok (.iconst 4, 1) := by decide +kernel
theorem dX5_init_46 : decode cX5_init 46 = .ok (.bipush 40, 2) := by decide +kernel
theorem dX5_init_48 : decode cX5_init 48 = .ok (.iastore, 1) := by decide +kernel
theorem dX5_init_49 : decode cX5_init 49 = .ok (.dup, 1) := by decide +kernel
theorem dX5_init_50 : decode cX5_init 50 = .ok (.iconst 5, 1) := by decide +kernel
theorem dX5_init_51 : decode cX5_init 51 = .ok (.bipush 20, 2) := by decide +kernel
theorem dX5_init_53 : decode cX5_init 53 = .ok (.iastore, 1) := by decide +kernel
theorem dX5_init_54 : decode cX5_init 54 = .ok (.dup, 1) := by decide +kernel
theorem dX5_init_55 : decode cX5_init 55 = .ok (.bipush 6, 2) := by decide +kernel
theorem dX5_init_57 : decode cX5_init 57 = .ok (.iconst 0, 1) := by decide +kernel
theorem dX5_init_58 : decode cX5_init 58 = .ok (.iastore, 1) := by decide +kernel
theorem dX5_init_59 : decode cX5_init 59 = .ok (.putfield 20, 3) := by decide +kernel
theorem dX5_init_62 : decode cX5_init 62 = .ok (.aload_n 0, 1) := by decide +kernel
theorem dX5_init_63 : decode cX5_init 63 = .ok (.bipush 60, 2) := by decide +kernel
theorem dX5_init_65 : decode cX5_init 65 = .ok (.putfield 24, 3) := by decide +kernel
theorem dX5_init_68 : decode cX5_init 68 = .ok (.aload_n 0, 1) := by decide +kernel
theorem dX5_init_69 : decode cX5_init 69 = .ok (.iconst (-1), 1) := by decide +kernel
theorem dX5_init_70 : decode cX5_init 70 = .ok (.putfield 28, 3) := by decide +kernel
theorem dX5_init_73 : decode cX5_init 73 = .ok (.return_, 1) := by decide +kernel
theorem dX5_copyFrom_0 : decode cX5_copyFrom 0 = .ok (.aload_n 0, 1) := by decide +kernel
theorem dX5_copyFrom_1 : decode cX5_copyFrom 1 = .ok (.getfield 14, 3) := by decide +kernel
theorem dX5_copyFrom_4 : decode cX5_copyFrom 4 = .ok (.aload_n 1, 1) := by decide +kernel
theorem dX5_copyFrom_5 : decode cX5_copyFrom 5 = .ok (.getfield 14, 3) := by decide +kernel
theorem dX5_copyFrom_8 : decode cX5_copyFrom 8 = .ok (.invokevirtual 31, 3) := by decide +kernel
theorem dX5_copyFrom_11 : decode cX5_copyFrom 11 = .ok (.aload_n 1, 1) := by decide +kernel
theorem dX5_copyFrom_12 : decode cX5_copyFrom 12 = .ok (.getfield 20, 3) := by decide +kernel
theorem dX5_copyFrom_15 : decode cX5_copyFrom 15 = .ok (.iconst 0, 1) := by decide +kernel
theorem dX5_copyFrom_16 : decode cX5_copyFrom 16 = .ok (.aload_n 0, 1) := by decide +kernel
theorem dX5_copyFrom_17 : decode cX5_copyFrom 17 = .ok (.getfield 20, 3) := by decide +kernel
theorem dX5_copyFrom_20 : decode cX5_copyFrom 20 = .ok (.iconst 0, 1) := by decide +kernel
theorem dX5_copyFrom_21 : decode cX5_copyFrom 21 = .ok (.aload_n 0, 1) := by decide +kernel
theorem dX5_copyFrom_22 : decode cX5_copyFrom 22 = .ok (.getfield 20, 3) := by decide +kernel
theorem dX5_copyFrom_25 : decode cX5_copyFrom 25 = .ok (.arraylength, 1) := by decide +kernel
theorem dX5_copyFrom_26 : decode cX5_copyFrom 26 = .ok (.invokestatic 35, 3) := by decide +kernel
theorem dX5_copyFrom_29 : decode cX5_copyFrom 29 = .ok (.aload_n 0, 1) := by decide +kernel
theorem dX5_copyFrom_30 : decode cX5_copyFrom 30 = .ok (.aload_n 1, 1) := by decide +kernel
theorem dX5_copyFrom_31 : decode cX5_copyFrom 31 = .ok (.getfield 24, 3) := by decide +kernel
theorem dX5_copyFrom_34 : decode cX5_copyFrom 34 = .ok (.putfield 24, 3) := by decide +kernel
theorem dX5_copyFrom_37 : decode cX5_copyFrom 37 = .ok (.aload_n 0, 1) := by decide +kernel
theorem dX5_copyFrom_38 : decode cX5_copyFrom 38 = .ok (.aload_n 1, 1) := by decide +kernel
theorem dX5_copyFrom_39 : decode cX5_copyFrom 39 = .ok (.getfield 41, 3) := by decide +kernel
theorem dX5_copyFrom_42 : decode cX5_copyFrom 42 = .ok (.putfield 41, 3) := by decide +kernel
theorem dX5_copyFrom_45 : decode cX5_copyFrom 45 = .ok (.aload_n 0, 1) := by decide +kernel
theorem dX5_copyFrom_46 : decode cX5_copyFrom 46 = .ok (.aload_n 1, 1) := by decide +kernel
theorem dX5_copyFrom_47 : decode cX5_copyFrom 47 = .ok (.getfield 45, 3) := by decide +kernel
theorem dX5_copyFrom_50 : decode cX5_copyFrom 50 = .ok (.putfield 45, 3) := by decide +kernel
theorem dX5_copyFrom_53 : decode cX5_copyFrom 53 = .ok (.aload_n 0, 1) := by decide +kernel
theorem dX5_copyFrom_54 : decode cX5_copyFrom 54 = .ok (.aload_n 1, 1) := by decide +kernel
theorem dX5_copyFrom_55 : decode cX5_copyFrom 55 = .ok (.getfield 48, 3) := by decide +kernel
theorem dX5_copyFrom_58 : decode cX5_copyFrom 58 = .ok (.putfield 48, 3) := by decide +kernel
theorem dX5_copyFrom_61 : decode cX5_copyFrom 61 = .ok (.aload_n 0, 1) := by decide +kernel
theorem dX5_copyFrom_62 : decode cX5_copyFrom 62 = .ok (.aload_n 1, 1) := by decide +kernel
theorem dX5_copyFrom_63 : decode cX5_copyFrom 63 = .ok (.getfield 28, 3) := by decide +kernel
theorem dX5_copyFrom_66 : decode cX5_copyFrom 66 = .ok (.putfield 28, 3) := by decide +kernel
theorem dX5_copyFrom_69 : decode cX5_copyFrom 69 = .ok (.return_, 1) := by decide +kernel
theorem dX5_tellArm_0 : decode cX5_tellArm 0 = .ok (.iload_n 1, 1) := by decide +kernel
theorem dX5_tellArm_1 : decode cX5_tellArm 1 = .ok (.bipush 7, 2) := by decide +kernel
theorem dX5_tellArm_3 : decode cX5_tellArm 3 = .ok (.if_icmp .ne 19, 3) := by decide +kernel
theorem dX5_tellArm_6 : decode cX5_tellArm 6 = .ok (.iload_n 2, 1) := by decide +kernel
theorem dX5_tellArm_7 : decode cX5_tellArm 7 = .ok (.bipush 91, 2) := by decide +kernel
theorem dX5_tellArm_9 : decode cX5_tellArm 9 = .ok (.invokestatic 51, 3) := by decide +kernel
theorem dX5_tellArm_12 : decode cX5_tellArm 12 = .ok (.ifCond .eq 10, 3) := by decide +kernel
theorem dX5_tellArm_15 : decode cX5_tellArm 15 = .ok (.aload_n 0, 1) := by decide +kernel
theorem dX5_tellArm_16 : decode cX5_tellArm 16 = .ok (.iload_n 2, 1) := by decide +kernel
theorem dX5_tellArm_17 : decode cX5_tellArm 17 = .ok (.putfield 24, 3) := by decide +kernel
theorem dX5_tellArm_20 : decode cX5_tellArm 20 = .ok (.iconst 1, 1) := by decide +kernel
theorem dX5_tellArm_21 : decode cX5_tellArm 21 = .ok (.ireturn, 1) := by decide +kernel
theorem dX5_tellArm_22 : decode cX5_tellArm 22 = .ok (.iload_n 1, 1) := by decide +kernel
theorem dX5_tellArm_23 : decode cX5_tellArm 23 = .ok (.aload_n 0, 1) := by decide +kernel
theorem dX5_tellArm_24 : decode cX5_tellArm 24 = .ok (.getfield 20, 3) := by decide +kernel
theorem dX5_tellArm_27 : decode cX5_tellArm 27 = .ok (.arraylength, 1) := by decide +kernel
theorem dX5_tellArm_28 : decode cX5_tellArm 28 = .ok (.invokestatic 51, 3) := by decide +kernel
theorem dX5_tellArm_31 : decode cX5_tellArm 31 = .ok (.ifCond .eq 12, 3) := by decide +kernel
theorem dX5_tellArm_34 : decode cX5_tellArm 34 = .ok (.iload_n 2, 1) := by decide +kernel
theorem dX5_tellArm_35 : decode cX5_tellArm 35 = .ok (.bipush 100, 2) := by decide +kernel
theorem dX5_tellArm_37 : decode cX5_tellArm 37 = .ok (.invokestatic 51, 3) := by decide +kernel
theorem dX5_tellArm_40 : decode cX5_tellArm 40 = .ok (.ifCond .ne 5, 3) := by decide +kernel
theorem dX5_tellArm_43 : decode cX5_tellArm 43 = .ok (.iconst 0, 1) := by decide +kernel
theorem dX5_tellArm_44 : decode cX5_tellArm 44 = .ok (.ireturn, 1) := by decide +kernel
theorem dX5_tellArm_45 : decode cX5_tellArm 45 = .ok (.aload_n 0, 1) := by decide +kernel
theorem dX5_tellArm_46 : decode cX5_tellArm 46 = .ok (.getfield 20, 3) := by decide +kernel
theorem dX5_tellArm_49 : decode cX5_tellArm 49 = .ok (.iload_n 1, 1) := by decide +kernel
theorem dX5_tellArm_50 : decode cX5_tellArm 50 = .ok (.iload_n 2, 1) := by decide +kernel
theorem dX5_tellArm_51 : decode cX5_tellArm 51 = .ok (.iastore, 1) := by decide +kernel
theorem dX5_tellArm_52 : decode cX5_tellArm 52 = .ok (.iconst 1, 1) := by decide +kernel
theorem dX5_tellArm_53 : decode cX5_tellArm 53 = .ok (.ireturn, 1) := by decide +kernel
theorem dX5_armTenths_0 : decode cX5_armTenths 0 = .ok (.iload_n 1, 1) := by decide +kernel
theorem dX5_armTenths_1 : decode cX5_armTenths 1 = .ok (.bipush 10, 2) := by decide +kernel
theorem dX5_armTenths_3 : decode cX5_armTenths 3 = .ok (.idiv, 1) := by decide +kernel
theorem dX5_armTenths_4 : decode cX5_armTenths 4 = .ok (.istore_n 2, 1) := by decide +kernel
theorem dX5_armTenths_5 : decode cX5_armTenths 5 = .ok (.iload_n 2, 1) := by decide +kernel
theorem dX5_armTenths_6 : decode cX5_armTenths 6 = .ok (.aload_n 0, 1) := by decide +kernel
theorem dX5_armTenths_7 : decode cX5_armTenths 7 = .ok (.getfield 20, 3) := by decide +kernel
theorem dX5_armTenths_10 : decode cX5_armTenths 10 = .ok (.arraylength, 1) := by decide +kernel
theorem dX5_armTenths_11 : decode cX5_armTenths 11 = .ok (.invokestatic 51, 3) := by decide +kernel
theorem dX5_armTenths_14 : decode cX5_armTenths 14 = .ok (.ifCond .ne 5, 3) := by decide +kernel
theorem dX5_armTenths_17 : decode cX5_armTenths 17 = .ok (.iconst 0, 1) := by decide +kernel
theorem dX5_armTenths_18 : decode cX5_armTenths 18 = .ok (.ireturn, 1) := by decide +kernel
theorem dX5_armTenths_19 : decode cX5_armTenths 19 = .ok (.iload_n 2, 1) := by decide +kernel
theorem dX5_armTenths_20 : decode cX5_armTenths 20 = .ok (.iconst 1, 1) := by decide +kernel
theorem dX5_armTenths_21 : decode cX5_armTenths 21 = .ok (.iadd, 1) := by decide +kernel
theorem dX5_armTenths_22 : decode cX5_armTenths 22 = .ok (.aload_n 0, 1) := by decide +kernel
theorem dX5_armTenths_23 : decode cX5_armTenths 23 = .ok (.getfield 20, 3) := by decide +kernel
theorem dX5_armTenths_26 : decode cX5_armTenths 26 = .ok (.arraylength, 1) := by decide +kernel
theorem dX5_armTenths_27 : decode cX5_armTenths 27 = .ok (.iconst 1, 1) := by decide +kernel
theorem dX5_armTenths_28 : decode cX5_armTenths 28 = .ok (.isub, 1) := by decide +kernel
theorem dX5_armTenths_29 : decode cX5_armTenths 29 = .ok (.invokestatic 55, 3) := by decide +kernel
theorem dX5_armTenths_32 : decode cX5_armTenths 32 = .ok (.istore_n 3, 1) := by decide +kernel
theorem dX5_armTenths_33 : decode cX5_armTenths 33 = .ok (.bipush 10, 2) := by decide +kernel
theorem dX5_armTenths_35 : decode cX5_armTenths 35 = .ok (.aload_n 0, 1) := by decide +kernel
theorem dX5_armTenths_36 : decode cX5_armTenths 36 = .ok (.getfield 20, 3) := by decide +kernel
theorem dX5_armTenths_39 : decode cX5_armTenths 39 = .ok (.iload_n 2, 1) := by decide +kernel
theorem dX5_armTenths_40 : decode cX5_armTenths 40 = .ok (.iaload, 1) := by decide +kernel
theorem dX5_armTenths_41 : decode cX5_armTenths 41 = .ok (.imul, 1) := by decide +kernel
theorem dX5_armTenths_42 : decode cX5_armTenths 42 = .ok (.aload_n 0, 1) := by decide +kernel
theorem dX5_armTenths_43 : decode cX5_armTenths 43 = .ok (.getfield 20, 3) := by decide +kernel
theorem dX5_armTenths_46 : decode cX5_armTenths 46 = .ok (.iload_n 3, 1) := by decide +kernel
theorem dX5_armTenths_47 : decode cX5_armTenths 47 = .ok (.iaload, 1) := by decide +kernel
theorem dX5_armTenths_48 : decode cX5_armTenths 48 = .ok (.aload_n 0, 1) := by decide +kernel
theorem dX5_armTenths_49 : decode cX5_armTenths 49 = .ok (.getfield 20, 3) := by decide +kernel
theorem dX5_armTenths_52 : decode cX5_armTenths 52 = .ok (.iload_n 2, 1) := by decide +kernel
theorem dX5_armTenths_53 : decode cX5_armTenths 53 = .ok (.iaload, 1) := by decide +kernel
theorem dX5_armTenths_54 : decode cX5_armTenths 54 = .ok (.isub, 1) := by decide +kernel
theorem dX5_armTenths_55 : decode cX5_armTenths 55 = .ok (.iload_n 1, 1) := by decide +kernel
theorem dX5_armTenths_56 : decode cX5_armTenths 56 = .ok (.bipush 10, 2) := by decide +kernel
theorem dX5_armTenths_58 : decode cX5_armTenths 58 = .ok (.irem, 1) := by decide +kernel
theorem dX5_armTenths_59 : decode cX5_armTenths 59 = .ok (.imul, 1) := by decide +kernel
theorem dX5_armTenths_60 : decode cX5_armTenths 60 = .ok (.iadd, 1) := by decide +kernel
theorem dX5_armTenths_61 : decode cX5_armTenths 61 = .ok (.ireturn, 1) := by decide +kernel
theorem dX5_moment_0 : decode cX5_moment 0 = .ok (.iconst 0, 1) := by decide +kernel
theorem dX5_moment_1 : decode cX5_moment 1 = .ok (.istore_n 1, 1) := by decide +kernel
theorem dX5_moment_2 : decode cX5_moment 2 = .ok (.iconst 0, 1) := by decide +kernel
theorem dX5_moment_3 : decode cX5_moment 3 = .ok (.istore_n 2, 1) := by decide +kernel
theorem dX5_moment_4 : decode cX5_moment 4 = .ok (.iload_n 2, 1) := by decide +kernel
theorem dX5_moment_5 : decode cX5_moment 5 = .ok (.aload_n 0, 1) := by decide +kernel
theorem dX5_moment_6 : decode cX5_moment 6 = .ok (.getfield 14, 3) := by decide +kernel
theorem dX5_moment_9 : decode cX5_moment 9 = .ok (.getfield 61, 3) := by decide +kernel
theorem dX5_moment_12 : decode cX5_moment 12 = .ok (.arraylength, 1) := by decide +kernel
theorem dX5_moment_13 : decode cX5_moment 13 = .ok (.if_icmp .ge 28, 3) := by decide +kernel
theorem dX5_moment_16 : decode cX5_moment 16 = .ok (.iload_n 1, 1) := by decide +kernel
theorem dX5_moment_17 : decode cX5_moment 17 = .ok (.aload_n 0, 1) := by decide +kernel
theorem dX5_moment_18 : decode cX5_moment 18 = .ok (.iload_n 2, 1) := by decide +kernel
theorem dX5_moment_19 : decode cX5_moment 19 = .ok (.invokevirtual 64, 3) := by decide +kernel
theorem dX5_moment_22 : decode cX5_moment 22 = .ok (.iload_n 2, 1) := by decide +kernel
theorem dX5_moment_23 : decode cX5_moment 23 = .ok (.bipush 6, 2) := by decide +kernel
theorem dX5_moment_25 : decode cX5_moment 25 = .ok (.idiv, 1) := by decide +kernel
theorem dX5_moment_26 : decode cX5_moment 26 = .ok (.bipush 6, 2) := by decide +kernel
theorem dX5_moment_28 : decode cX5_moment 28 = .ok (.irem, 1) := by decide +kernel
theorem dX5_moment_29 : decode cX5_moment 29 = .ok (.invokestatic 68, 3) := by decide +kernel
theorem dX5_moment_32 : decode cX5_moment 32 = .ok (.imul, 1) := by decide +kernel
theorem dX5_moment_33 : decode cX5_moment 33 = .ok (.iadd, 1) := by decide +kernel
theorem dX5_moment_34 : decode cX5_moment 34 = .ok (.istore_n 1, 1) := by decide +kernel
theorem dX5_moment_35 : decode cX5_moment 35 = .ok (.iinc 2 1, 3) := by decide +kernel
theorem dX5_moment_38 : decode cX5_moment 38 = .ok (.goto (-34), 3) := by decide +kernel
theorem dX5_moment_41 : decode cX5_moment 41 = .ok (.iload_n 1, 1) := by decide +kernel
theorem dX5_moment_42 : decode cX5_moment 42 = .ok (.ireturn, 1) := by decide +kernel
theorem dX5_weight_0 : decode cX5_weight 0 = .ok (.sipush 2000, 3) := by decide +kernel
theorem dX5_weight_3 : decode cX5_weight 3 = .ok (.istore_n 1, 1) := by decide +kernel
theorem dX5_weight_4 : decode cX5_weight 4 = .ok (.iconst 0, 1) := by decide +kernel
theorem dX5_weight_5 : decode cX5_weight 5 = .ok (.istore_n 2, 1) := by decide +kernel
theorem dX5_weight_6 : decode cX5_weight 6 = .ok (.iload_n 2, 1) := by decide +kernel
theorem dX5_weight_7 : decode cX5_weight 7 = .ok (.aload_n 0, 1) := by decide +kernel
theorem dX5_weight_8 : decode cX5_weight 8 = .ok (.getfield 14, 3) := by decide +kernel
theorem dX5_weight_11 : decode cX5_weight 11 = .ok (.getfield 61, 3) := by decide +kernel
theorem dX5_weight_14 : decode cX5_weight 14 = .ok (.arraylength, 1) := by decide +kernel
theorem dX5_weight_15 : decode cX5_weight 15 = .ok (.if_icmp .ge 17, 3) := by decide +kernel
theorem dX5_weight_18 : decode cX5_weight 18 = .ok (.iload_n 1, 1) := by decide +kernel
theorem dX5_weight_19 : decode cX5_weight 19 = .ok (.aload_n 0, 1) := by decide +kernel
theorem dX5_weight_20 : decode cX5_weight 20 = .ok (.iload_n 2, 1) := by decide +kernel
theorem dX5_weight_21 : decode cX5_weight 21 = .ok (.invokevirtual 64, 3) := by decide +kernel
theorem dX5_weight_24 : decode cX5_weight 24 = .ok (.iadd, 1) := by decide +kernel
theorem dX5_weight_25 : decode cX5_weight 25 = .ok (.istore_n 1, 1) := by decide +kernel
theorem dX5_weight_26 : decode cX5_weight 26 = .ok (.iinc 2 1, 3) := by decide +kernel
theorem dX5_weight_29 : decode cX5_weight 29 = .ok (.goto (-23), 3) := by decide +kernel
theorem dX5_weight_32 : decode cX5_weight 32 = .ok (.iload_n 1, 1) := by decide +kernel
theorem dX5_weight_33 : decode cX5_weight 33 = .ok (.ireturn, 1) := by decide +kernel
theorem dX5_heft_0 : decode cX5_heft 0 = .ok (.bipush 10, 2) := by decide +kernel
theorem dX5_heft_2 : decode cX5_heft 2 = .ok (.aload_n 0, 1) := by decide +kernel
theorem dX5_heft_3 : decode cX5_heft 3 = .ok (.getfield 14, 3) := by decide +kernel
theorem dX5_heft_6 : decode cX5_heft 6 = .ok (.getfield 61, 3) := by decide +kernel
theorem dX5_heft_9 : decode cX5_heft 9 = .ok (.iload_n 1, 1) := by decide +kernel
theorem dX5_heft_10 : decode cX5_heft 10 = .ok (.iaload, 1) := by decide +kernel
theorem dX5_heft_11 : decode cX5_heft 11 = .ok (.imul, 1) := by decide +kernel
theorem dX5_heft_12 : decode cX5_heft 12 = .ok (.aload_n 0, 1) := by decide +kernel
theorem dX5_heft_13 : decode cX5_heft 13 = .ok (.getfield 14, 3) := by decide +kernel
theorem dX5_heft_16 : decode cX5_heft 16 = .ok (.getfield 71, 3) := by decide +kernel
theorem dX5_heft_19 : decode cX5_heft 19 = .ok (.iload_n 1, 1) := by decide +kernel
theorem dX5_heft_20 : decode cX5_heft 20 = .ok (.iaload, 1) := by decide +kernel
theorem dX5_heft_21 : decode cX5_heft 21 = .ok (.iadd, 1) := by decide +kernel
theorem dX5_heft_22 : decode cX5_heft 22 = .ok (.ireturn, 1) := by decide +kernel
theorem dX5_passHour_0 : decode cX5_passHour 0 = .ok (.aload_n 0, 1) := by decide +kernel
theorem dX5_passHour_1 : decode cX5_passHour 1 = .ok (.getfield 41, 3) := by decide +kernel
theorem dX5_passHour_4 : decode cX5_passHour 4 = .ok (.ifCond .eq 11, 3) := by decide +kernel
theorem dX5_passHour_7 : decode cX5_passHour 7 = .ok (.aload_n 0, 1) := by decide +kernel
theorem dX5_passHour_8 : decode cX5_passHour 8 = .ok (.getfield 28, 3) := by decide +kernel
theorem dX5_passHour_11 : decode cX5_passHour 11 = .ok (.iconst (-1), 1) := by decide +kernel
theorem dX5_passHour_12 : decode cX5_passHour 12 = .ok (.if_icmp .eq 4, 3) := by decide +kernel
theorem dX5_passHour_15 : decode cX5_passHour 15 = .ok (.return_, 1) := by decide +kernel
theorem dX5_passHour_16 : decode cX5_passHour 16 = .ok (.aload_n 0, 1) := by decide +kernel
theorem dX5_passHour_17 : decode cX5_passHour 17 = .ok (.getfield 14, 3) := by decide +kernel
theorem dX5_passHour_20 : decode cX5_passHour 20 = .ok (.iload_n 2, 1) := by decide +kernel
theorem dX5_passHour_21 : decode cX5_passHour 21 = .ok (.invokevirtual 74, 3) := by decide +kernel
theorem dX5_passHour_24 : decode cX5_passHour 24 = .ok (.aload_n 0, 1) := by decide +kernel
theorem dX5_passHour_25 : decode cX5_passHour 25 = .ok (.getfield 14, 3) := by decide +kernel
theorem dX5_passHour_28 : decode cX5_passHour 28 = .ok (.aload_n 1, 1) := by decide +kernel
theorem dX5_passHour_29 : decode cX5_passHour 29 = .ok (.invokevirtual 78, 3) := by decide +kernel
theorem dX5_passHour_32 : decode cX5_passHour 32 = .ok (.aload_n 0, 1) := by decide +kernel
theorem dX5_passHour_33 : decode cX5_passHour 33 = .ok (.getfield 14, 3) := by decide +kernel
theorem dX5_passHour_36 : decode cX5_passHour 36 = .ok (.aload_n 1, 1) := by decide +kernel
theorem dX5_passHour_37 : decode cX5_passHour 37 = .ok (.invokevirtual 82, 3) := by decide +kernel
theorem dX5_passHour_40 : decode cX5_passHour 40 = .ok (.aload_n 0, 1) := by decide +kernel
theorem dX5_passHour_41 : decode cX5_passHour 41 = .ok (.aload_n 0, 1) := by decide +kernel
theorem dX5_passHour_42 : decode cX5_passHour 42 = .ok (.invokevirtual 85, 3) := by decide +kernel
theorem dX5_passHour_45 : decode cX5_passHour 45 = .ok (.putfield 48, 3) := by decide +kernel
theorem dX5_passHour_48 : decode cX5_passHour 48 = .ok (.aload_n 0, 1) := by decide +kernel
theorem dX5_passHour_49 : decode cX5_passHour 49 = .ok (.getfield 48, 3) := by decide +kernel
theorem dX5_passHour_52 : decode cX5_passHour 52 = .ok (.invokestatic 89, 3) := by decide +kernel
theorem dX5_passHour_55 : decode cX5_passHour 55 = .ok (.bipush 60, 2) := by decide +kernel
theorem dX5_passHour_57 : decode cX5_passHour 57 = .ok (.if_icmp .gt 23, 3) := by decide +kernel
theorem dX5_passHour_60 : decode cX5_passHour 60 = .ok (.aload_n 0, 1) := by decide +kernel
theorem dX5_passHour_61 : decode cX5_passHour 61 = .ok (.getfield 48, 3) := by decide +kernel
theorem dX5_passHour_64 : decode cX5_passHour 64 = .ok (.invokestatic 89, 3) := by decide +kernel
theorem dX5_passHour_67 : decode cX5_passHour 67 = .ok (.aload_n 0, 1) := by decide +kernel
theorem dX5_passHour_68 : decode cX5_passHour 68 = .ok (.iload_n 2, 1) := by decide +kernel
theorem dX5_passHour_69 : decode cX5_passHour 69 = .ok (.invokevirtual 92, 3) := by decide +kernel
theorem dX5_passHour_72 : decode cX5_passHour 72 = .ok (.iadd, 1) := by decide +kernel
theorem dX5_passHour_73 : decode cX5_passHour 73 = .ok (.aload_n 0, 1) := by decide +kernel
theorem dX5_passHour_74 : decode cX5_passHour 74 = .ok (.getfield 24, 3) := by decide +kernel
theorem dX5_passHour_77 : decode cX5_passHour 77 = .ok (.if_icmp .le 9, 3) := by decide +kernel
theorem dX5_passHour_80 : decode cX5_passHour 80 = .ok (.aload_n 0, 1) := by decide +kernel
theorem dX5_passHour_81 : decode cX5_passHour 81 = .ok (.iload_n 3, 1) := by decide +kernel
theorem dX5_passHour_82 : decode cX5_passHour 82 = .ok (.putfield 28, 3) := by decide +kernel
theorem dX5_passHour_85 : decode cX5_passHour 85 = .ok (.return_, 1) := by decide +kernel
theorem dX5_passHour_86 : decode cX5_passHour 86 = .ok (.aload_n 0, 1) := by decide +kernel
theorem dX5_passHour_87 : decode cX5_passHour 87 = .ok (.invokevirtual 95, 3) := by decide +kernel
theorem dX5_passHour_90 : decode cX5_passHour 90 = .ok (.return_, 1) := by decide +kernel
theorem dX5_leanNow_0 : decode cX5_leanNow 0 = .ok (.aload_n 0, 1) := by decide +kernel
theorem dX5_leanNow_1 : decode cX5_leanNow 1 = .ok (.invokevirtual 98, 3) := by decide +kernel
theorem dX5_leanNow_4 : decode cX5_leanNow 4 = .ok (.istore_n 1, 1) := by decide +kernel
theorem dX5_leanNow_5 : decode cX5_leanNow 5 = .ok (.aload_n 0, 1) := by decide +kernel
theorem dX5_leanNow_6 : decode cX5_leanNow 6 = .ok (.invokevirtual 101, 3) := by decide +kernel
theorem dX5_leanNow_9 : decode cX5_leanNow 9 = .ok (.i2l, 1) := by decide +kernel
theorem dX5_leanNow_10 : decode cX5_leanNow 10 = .ok (.lstore_n 2, 1) := by decide +kernel
theorem dX5_leanNow_11 : decode cX5_leanNow 11 = .ok (.ldc2_w 104, 3) := by decide +kernel
theorem dX5_leanNow_14 : decode cX5_leanNow 14 = .ok (.iload_n 1, 1) := by decide +kernel
theorem dX5_leanNow_15 : decode cX5_leanNow 15 = .ok (.invokestatic 89, 3) := by decide +kernel
theorem dX5_leanNow_18 : decode cX5_leanNow 18 = .ok (.i2l, 1) := by decide +kernel
theorem dX5_leanNow_19 : decode cX5_leanNow 19 = .ok (.lmul, 1) := by decide +kernel
theorem dX5_leanNow_20 : decode cX5_leanNow 20 = .ok (.lstore 4, 2) := by decide +kernel
theorem dX5_leanNow_22 : decode cX5_leanNow 22 = .ok (.iconst 0, 1) := by decide +kernel
theorem dX5_leanNow_23 : decode cX5_leanNow 23 = .ok (.istore 6, 2) := by decide +kernel
theorem dX5_leanNow_25 : decode cX5_leanNow 25 = .ok (.iload 6, 2) := by decide +kernel
theorem dX5_leanNow_27 : decode cX5_leanNow 27 = .ok (.bipush 60, 2) := by decide +kernel
theorem dX5_leanNow_29 : decode cX5_leanNow 29 = .ok (.if_icmp .gt 24, 3) := by decide +kernel
theorem dX5_leanNow_32 : decode cX5_leanNow 32 = .ok (.aload_n 0, 1) := by decide +kernel
theorem dX5_leanNow_33 : decode cX5_leanNow 33 = .ok (.iload 6, 2) := by decide +kernel
theorem dX5_leanNow_35 : decode cX5_leanNow 35 = .ok (.invokevirtual 106, 3) := by decide +kernel
theorem dX5_leanNow_38 : decode cX5_leanNow 38 = .ok (.i2l, 1) := by decide +kernel
theorem dX5_leanNow_39 : decode cX5_leanNow 39 = .ok (.lload_n 2, 1) := by decide +kernel
theorem dX5_leanNow_40 : decode cX5_leanNow 40 = .ok (.lmul, 1) := by decide +kernel
theorem dX5_leanNow_41 : decode cX5_leanNow 41 = .ok (.lload 4, 2) := by decide +kernel
theorem dX5_leanNow_43 : decode cX5_leanNow 43 = .ok (.lcmp, 1) := by decide +kernel
theorem dX5_leanNow_44 : decode cX5_leanNow 44 = .ok (.ifCond .ge 9, 3) := by decide +kernel
theorem dX5_leanNow_47 : decode cX5_leanNow 47 = .ok (.iinc 6 1, 3) := by decide +kernel
theorem dX5_leanNow_50 : decode cX5_leanNow 50 = .ok (.goto (-25), 3) := by decide +kernel
theorem dX5_leanNow_53 : decode cX5_leanNow 53 = .ok (.iload_n 1, 1) := by decide +kernel
theorem dX5_leanNow_54 : decode cX5_leanNow 54 = .ok (.ifCond .ge 9, 3) := by decide +kernel
theorem dX5_leanNow_57 : decode cX5_leanNow 57 = .ok (.iload 6, 2) := by decide +kernel
theorem dX5_leanNow_59 : decode cX5_leanNow 59 = .ok (.ineg, 1) := by decide +kernel
theorem dX5_leanNow_60 : decode cX5_leanNow 60 = .ok (.goto 5, 3) := by decide +kernel
theorem dX5_leanNow_63 : decode cX5_leanNow 63 = .ok (.iload 6, 2) := by decide +kernel
theorem dX5_leanNow_65 : decode cX5_leanNow 65 = .ok (.ireturn, 1) := by decide +kernel
theorem dX5_roll_0 : decode cX5_roll 0 = .ok (.aload_n 0, 1) := by decide +kernel
theorem dX5_roll_1 : decode cX5_roll 1 = .ok (.ldc 109, 2) := by decide +kernel
theorem dX5_roll_3 : decode cX5_roll 3 = .ok (.aload_n 0, 1) := by decide +kernel
theorem dX5_roll_4 : decode cX5_roll 4 = .ok (.getfield 45, 3) := by decide +kernel
theorem dX5_roll_7 : decode cX5_roll 7 = .ok (.imul, 1) := by decide +kernel
theorem dX5_roll_8 : decode cX5_roll 8 = .ok (.ldc 110, 2) := by decide +kernel
theorem dX5_roll_10 : decode cX5_roll 10 = .ok (.iadd, 1) := by decide +kernel
theorem dX5_roll_11 : decode cX5_roll 11 = .ok (.putfield 45, 3) := by decide +kernel
theorem dX5_roll_14 : decode cX5_roll 14 = .ok (.iload_n 1, 1) := by decide +kernel
theorem dX5_roll_15 : decode cX5_roll 15 = .ok (.aload_n 0, 1) := by decide +kernel
theorem dX5_roll_16 : decode cX5_roll 16 = .ok (.getfield 45, 3) := by decide +kernel
theorem dX5_roll_19 : decode cX5_roll 19 = .ok (.bipush 30, 2) := by decide +kernel
theorem dX5_roll_21 : decode cX5_roll 21 = .ok (.iushr, 1) := by decide +kernel
theorem dX5_roll_22 : decode cX5_roll 22 = .ok (.imul, 1) := by decide +kernel
theorem dX5_roll_23 : decode cX5_roll 23 = .ok (.ireturn, 1) := by decide +kernel
theorem dX5_flow_0 : decode cX5_flow 0 = .ok (.aload_n 0, 1) := by decide +kernel
theorem dX5_flow_1 : decode cX5_flow 1 = .ok (.getfield 48, 3) := by decide +kernel
theorem dX5_flow_4 : decode cX5_flow 4 = .ok (.ifCond .ne 4, 3) := by decide +kernel
theorem dX5_flow_7 : decode cX5_flow 7 = .ok (.return_, 1) := by decide +kernel
theorem dX5_flow_8 : decode cX5_flow 8 = .ok (.aload_n 0, 1) := by decide +kernel
theorem dX5_flow_9 : decode cX5_flow 9 = .ok (.getfield 48, 3) := by decide +kernel
theorem dX5_flow_12 : decode cX5_flow 12 = .ok (.ifCond .le 7, 3) := by decide +kernel
theorem dX5_flow_15 : decode cX5_flow 15 = .ok (.iconst 1, 1) := by decide +kernel
theorem dX5_flow_16 : decode cX5_flow 16 = .ok (.goto 4, 3) := by decide +kernel
theorem dX5_flow_19 : decode cX5_flow 19 = .ok (.iconst (-1), 1) := by decide +kernel
theorem dX5_flow_20 : decode cX5_flow 20 = .ok (.istore_n 1, 1) := by decide +kernel
theorem dX5_flow_21 : decode cX5_flow 21 = .ok (.aload_n 0, 1) := by decide +kernel
theorem dX5_flow_22 : decode cX5_flow 22 = .ok (.getfield 48, 3) := by decide +kernel
theorem dX5_flow_25 : decode cX5_flow 25 = .ok (.ifCond .le 7, 3) := by decide +kernel
theorem dX5_flow_28 : decode cX5_flow 28 = .ok (.iconst 5, 1) := by decide +kernel
theorem dX5_flow_29 : decode cX5_flow 29 = .ok (.goto 4, 3) := by decide +kernel
theorem dX5_flow_32 : decode cX5_flow 32 = .ok (.iconst 0, 1) := by decide +kernel
theorem dX5_flow_33 : decode cX5_flow 33 = .ok (.istore_n 2, 1) := by decide +kernel
theorem dX5_flow_34 : decode cX5_flow 34 = .ok (.iconst 0, 1) := by decide +kernel
theorem dX5_flow_35 : decode cX5_flow 35 = .ok (.istore_n 3, 1) := by decide +kernel
theorem dX5_flow_36 : decode cX5_flow 36 = .ok (.iload_n 3, 1) := by decide +kernel
theorem dX5_flow_37 : decode cX5_flow 37 = .ok (.iconst 4, 1) := by decide +kernel
theorem dX5_flow_38 : decode cX5_flow 38 = .ok (.if_icmp .ge 48, 3) := by decide +kernel
theorem dX5_flow_41 : decode cX5_flow 41 = .ok (.iconst 1, 1) := by decide +kernel
theorem dX5_flow_42 : decode cX5_flow 42 = .ok (.istore 4, 2) := by decide +kernel
theorem dX5_flow_44 : decode cX5_flow 44 = .ok (.iload 4, 2) := by decide +kernel
theorem dX5_flow_46 : decode cX5_flow 46 = .ok (.bipush 6, 2) := by decide +kernel
theorem dX5_flow_48 : decode cX5_flow 48 = .ok (.if_icmp .ge 32, 3) := by decide +kernel
theorem dX5_flow_51 : decode cX5_flow 51 = .ok (.iload_n 3, 1) := by decide +kernel
theorem dX5_flow_52 : decode cX5_flow 52 = .ok (.bipush 6, 2) := by decide +kernel
theorem dX5_flow_54 : decode cX5_flow 54 = .ok (.imul, 1) := by decide +kernel
theorem dX5_flow_55 : decode cX5_flow 55 = .ok (.iload_n 2, 1) := by decide +kernel
theorem dX5_flow_56 : decode cX5_flow 56 = .ok (.iadd, 1) := by decide +kernel
theorem dX5_flow_57 : decode cX5_flow 57 = .ok (.iload 4, 2) := by decide +kernel
theorem dX5_flow_59 : decode cX5_flow 59 = .ok (.iload_n 1, 1) := by decide +kernel
theorem dX5_flow_60 : decode cX5_flow 60 = .ok (.imul, 1) := by decide +kernel
theorem dX5_flow_61 : decode cX5_flow 61 = .ok (.isub, 1) := by decide +kernel
theorem dX5_flow_62 : decode cX5_flow 62 = .ok (.istore 5, 2) := by decide +kernel
theorem dX5_flow_64 : decode cX5_flow 64 = .ok (.aload_n 0, 1) := by decide +kernel
theorem dX5_flow_65 : decode cX5_flow 65 = .ok (.iload 5, 2) := by decide +kernel
theorem dX5_flow_67 : decode cX5_flow 67 = .ok (.iload 5, 2) := by decide +kernel
theorem dX5_flow_69 : decode cX5_flow 69 = .ok (.iload_n 1, 1) := by decide +kernel
theorem dX5_flow_70 : decode cX5_flow 70 = .ok (.iadd, 1) := by decide +kernel
theorem dX5_flow_71 : decode cX5_flow 71 = .ok (.invokevirtual 111, 3) := by decide +kernel
theorem dX5_flow_74 : decode cX5_flow 74 = .ok (.iinc 4 1, 3) := by decide +kernel
theorem dX5_flow_77 : decode cX5_flow 77 = .ok (.goto (-33), 3) := by decide +kernel
theorem dX5_flow_80 : decode cX5_flow 80 = .ok (.iinc 3 1, 3) := by decide +kernel
theorem dX5_flow_83 : decode cX5_flow 83 = .ok (.goto (-47), 3) := by decide +kernel
theorem dX5_flow_86 : decode cX5_flow 86 = .ok (.return_, 1) := by decide +kernel
theorem dX5_flowOver_0 : decode cX5_flowOver 0 = .ok (.aload_n 0, 1) := by decide +kernel
theorem dX5_flowOver_1 : decode cX5_flowOver 1 = .ok (.getfield 14, 3) := by decide +kernel
theorem dX5_flowOver_4 : decode cX5_flowOver 4 = .ok (.iload_n 1, 1) := by decide +kernel
theorem dX5_flowOver_5 : decode cX5_flowOver 5 = .ok (.invokevirtual 115, 3) := by decide +kernel
theorem dX5_flowOver_8 : decode cX5_flowOver 8 = .ok (.aload_n 0, 1) := by decide +kernel
theorem dX5_flowOver_9 : decode cX5_flowOver 9 = .ok (.getfield 48, 3) := by decide +kernel
theorem dX5_flowOver_12 : decode cX5_flowOver 12 = .ok (.invokestatic 89, 3) := by decide +kernel
theorem dX5_flowOver_15 : decode cX5_flowOver 15 = .ok (.bipush 10, 2) := by decide +kernel
theorem dX5_flowOver_17 : decode cX5_flowOver 17 = .ok (.if_icmp .lt 7, 3) := by decide +kernel
theorem dX5_flowOver_20 : decode cX5_flowOver 20 = .ok (.iconst 0, 1) := by decide +kernel
theorem dX5_flowOver_21 : decode cX5_flowOver 21 = .ok (.goto 4, 3) := by decide +kernel
theorem dX5_flowOver_24 : decode cX5_flowOver 24 = .ok (.iconst 1, 1) := by decide +kernel
theorem dX5_flowOver_25 : decode cX5_flowOver 25 = .ok (.isub, 1) := by decide +kernel
theorem dX5_flowOver_26 : decode cX5_flowOver 26 = .ok (.istore_n 3, 1) := by decide +kernel
theorem dX5_flowOver_27 : decode cX5_flowOver 27 = .ok (.aload_n 0, 1) := by decide +kernel
theorem dX5_flowOver_28 : decode cX5_flowOver 28 = .ok (.getfield 14, 3) := by decide +kernel
theorem dX5_flowOver_31 : decode cX5_flowOver 31 = .ok (.iload_n 1, 1) := by decide +kernel
theorem dX5_flowOver_32 : decode cX5_flowOver 32 = .ok (.invokevirtual 118, 3) := by decide +kernel
theorem dX5_flowOver_35 : decode cX5_flowOver 35 = .ok (.ifCond .eq 29, 3) := by decide +kernel
theorem dX5_flowOver_38 : decode cX5_flowOver 38 = .ok (.aload_n 0, 1) := by decide +kernel
theorem dX5_flowOver_39 : decode cX5_flowOver 39 = .ok (.getfield 14, 3) := by decide +kernel
theorem dX5_flowOver_42 : decode cX5_flowOver 42 = .ok (.iload_n 2, 1) := by decide +kernel
theorem dX5_flowOver_43 : decode cX5_flowOver 43 = .ok (.invokevirtual 115, 3) := by decide +kernel
theorem dX5_flowOver_46 : decode cX5_flowOver 46 = .ok (.iload_n 3, 1) := by decide +kernel
theorem dX5_flowOver_47 : decode cX5_flowOver 47 = .ok (.if_icmp .gt 17, 3) := by decide +kernel
theorem dX5_flowOver_50 : decode cX5_flowOver 50 = .ok (.aload_n 0, 1) := by decide +kernel
theorem dX5_flowOver_51 : decode cX5_flowOver 51 = .ok (.getfield 14, 3) := by decide +kernel
theorem dX5_flowOver_54 : decode cX5_flowOver 54 = .ok (.iload_n 1, 1) := by decide +kernel
theorem dX5_flowOver_55 : decode cX5_flowOver 55 = .ok (.aload_n 0, 1) := by decide +kernel
theorem dX5_flowOver_56 : decode cX5_flowOver 56 = .ok (.getfield 14, 3) := by decide +kernel
theorem dX5_flowOver_59 : decode cX5_flowOver 59 = .ok (.iload_n 2, 1) := by decide +kernel
theorem dX5_flowOver_60 : decode cX5_flowOver 60 = .ok (.invokevirtual 122, 3) := by decide +kernel
theorem dX5_flowOver_63 : decode cX5_flowOver 63 = .ok (.pop, 1) := by decide +kernel
theorem dX5_flowOver_64 : decode cX5_flowOver 64 = .ok (.return_, 1) := by decide +kernel
theorem dX6_init_0 : decode cX6_init 0 = .ok (.aload_n 0, 1) := by decide +kernel
theorem dX6_init_1 : decode cX6_init 1 = .ok (.invokespecial 3, 3) := by decide +kernel
theorem dX6_init_4 : decode cX6_init 4 = .ok (.aload_n 0, 1) := by decide +kernel
theorem dX6_init_5 : decode cX6_init 5 = .ok (.sipush 288, 3) := by decide +kernel
theorem dX6_init_8 : decode cX6_init 8 = .ok (.newarray .int, 2) := by decide +kernel
theorem dX6_init_10 : decode cX6_init 10 = .ok (.putfield 11, 3) := by decide +kernel
theorem dX6_init_13 : decode cX6_init 13 = .ok (.aload_n 0, 1) := by decide +kernel
theorem dX6_init_14 : decode cX6_init 14 = .ok (.sipush 288, 3) := by decide +kernel
theorem dX6_init_17 : decode cX6_init 17 = .ok (.newarray .int, 2) := by decide +kernel
theorem dX6_init_19 : decode cX6_init 19 = .ok (.putfield 15, 3) := by decide +kernel
theorem dX6_init_22 : decode cX6_init 22 = .ok (.return_, 1) := by decide +kernel
theorem dX6_add_0 : decode cX6_add 0 = .ok (.iload_n 1, 1) := by decide +kernel
theorem dX6_add_1 : decode cX6_add 1 = .ok (.bipush 8, 2) := by decide +kernel
theorem dX6_add_3 : decode cX6_add 3 = .ok (.invokestatic 18, 3) := by decide +kernel
theorem dX6_add_6 : decode cX6_add 6 = .ok (.ifCond .eq 24, 3) := by decide +kernel
theorem dX6_add_9 : decode cX6_add 9 = .ok (.iload_n 2, 1) := by decide +kernel
theorem dX6_add_10 : decode cX6_add 10 = .ok (.bipush 12, 2) := by decide +kernel
theorem dX6_add_12 : decode cX6_add 12 = .ok (.invokestatic 18, 3) := by decide +kernel
theorem dX6_add_15 : decode cX6_add 15 = .ok (.ifCond .eq 15, 3) := by decide +kernel
theorem dX6_add_18 : decode cX6_add 18 = .ok (.iload_n 3, 1) := by decide +kernel
theorem dX6_add_19 : decode cX6_add 19 = .ok (.iconst 3, 1) := by decide +kernel
theorem dX6_add_20 : decode cX6_add 20 = .ok (.invokestatic 18, 3) := by decide +kernel
theorem dX6_add_23 : decode cX6_add 23 = .ok (.ifCond .eq 7, 3) := by decide +kernel
theorem dX6_add_26 : decode cX6_add 26 = .ok (.iconst 1, 1) := by decide +kernel
theorem dX6_add_27 : decode cX6_add 27 = .ok (.goto 4, 3) := by decide +kernel
theorem dX6_add_30 : decode cX6_add 30 = .ok (.iconst 0, 1) := by decide +kernel
theorem dX6_add_31 : decode cX6_add 31 = .ok (.istore 5, 2) := by decide +kernel
theorem dX6_add_33 : decode cX6_add 33 = .ok (.iload 5, 2) := by decide +kernel
theorem dX6_add_35 : decode cX6_add 35 = .ok (.ifCond .eq 13, 3) := by decide +kernel
theorem dX6_add_38 : decode cX6_add 38 = .ok (.aload_n 0, 1) := by decide +kernel
theorem dX6_add_39 : decode cX6_add 39 = .ok (.getfield 22, 3) := by decide +kernel
theorem dX6_add_42 : decode cX6_add 42 = .ok (.sipush 200, 3) := by decide +kernel
theorem dX6_add_45 : decode cX6_add 45 = .ok (.if_icmp .lt 5, 3) := by decide +kernel
theorem dX6_add_48 : decode cX6_add 48 = .ok (.iconst (-1), 1) := by decide +kernel
theorem dX6_add_49 : decode cX6_add 49 = .ok (.ireturn, 1) := by decide +kernel
theorem dX6_add_50 : decode cX6_add 50 = .ok (.iload_n 1, 1) := by decide +kernel
theorem dX6_add_51 : decode cX6_add 51 = .ok (.bipush 12, 2) := by decide +kernel
theorem dX6_add_53 : decode cX6_add 53 = .ok (.imul, 1) := by decide +kernel
theorem dX6_add_54 : decode cX6_add 54 = .ok (.iload_n 2, 1) := by decide +kernel
theorem dX6_add_55 : decode cX6_add 55 = .ok (.iadd, 1) := by decide +kernel
theorem dX6_add_56 : decode cX6_add 56 = .ok (.iconst 3, 1) := by decide +kernel
theorem dX6_add_57 : decode cX6_add 57 = .ok (.imul, 1) := by decide +kernel
theorem dX6_add_58 : decode cX6_add 58 = .ok (.iload_n 3, 1) := by decide +kernel
theorem dX6_add_59 : decode cX6_add 59 = .ok (.iadd, 1) := by decide +kernel
theorem dX6_add_60 : decode cX6_add 60 = .ok (.istore 6, 2) := by decide +kernel
theorem dX6_add_62 : decode cX6_add 62 = .ok (.aload_n 0, 1) := by decide +kernel
theorem dX6_add_63 : decode cX6_add 63 = .ok (.getfield 11, 3) := by decide +kernel
theorem dX6_add_66 : decode cX6_add 66 = .ok (.iload 6, 2) := by decide +kernel
theorem dX6_add_68 : decode cX6_add 68 = .ok (.dup2, 1) := by decide +kernel
theorem dX6_add_69 : decode cX6_add 69 = .ok (.iaload, 1) := by decide +kernel
theorem dX6_add_70 : decode cX6_add 70 = .ok (.iconst 1, 1) := by decide +kernel
theorem dX6_add_71 : decode cX6_add 71 = .ok (.iadd, 1) := by decide +kernel
theorem dX6_add_72 : decode cX6_add 72 = .ok (.iastore, 1) := by decide +kernel
theorem dX6_add_73 : decode cX6_add 73 = .ok (.aload_n 0, 1) := by decide +kernel
theorem dX6_add_74 : decode cX6_add 74 = .ok (.getfield 15, 3) := by decide +kernel
theorem dX6_add_77 : decode cX6_add 77 = .ok (.iload 6, 2) := by decide +kernel
theorem dX6_add_79 : decode cX6_add 79 = .ok (.dup2, 1) := by decide +kernel
theorem dX6_add_80 : decode cX6_add 80 = .ok (.iaload, 1) := by decide +kernel
theorem dX6_add_81 : decode cX6_add 81 = .ok (.iload 4, 2) := by decide +kernel
theorem dX6_add_83 : decode cX6_add 83 = .ok (.ifCond .eq 7, 3) := by decide +kernel
theorem dX6_add_86 : decode cX6_add 86 = .ok (.iconst 1, 1) := by decide +kernel
theorem dX6_add_87 : decode cX6_add 87 = .ok (.goto 4, 3) := by decide +kernel
theorem dX6_add_90 : decode cX6_add 90 = .ok (.iconst 0, 1) := by decide +kernel
theorem dX6_add_91 : decode cX6_add 91 = .ok (.iadd, 1) := by decide +kernel
theorem dX6_add_92 : decode cX6_add 92 = .ok (.iastore, 1) := by decide +kernel
theorem dX6_add_93 : decode cX6_add 93 = .ok (.aload_n 0, 1) := by decide +kernel
theorem dX6_add_94 : decode cX6_add 94 = .ok (.dup, 1) := by decide +kernel
theorem dX6_add_95 : decode cX6_add 95 = .ok (.getfield 22, 3) := by decide +kernel
theorem dX6_add_98 : decode cX6_add 98 = .ok (.iconst 1, 1) := by decide +kernel
theorem dX6_add_99 : decode cX6_add 99 = .ok (.iadd, 1) := by decide +kernel
theorem dX6_add_100 : decode cX6_add 100 = .ok (.putfield 22, 3) := by decide +kernel
theorem dX6_add_103 : decode cX6_add 103 = .ok (.aload_n 0, 1) := by decide +kernel
theorem dX6_add_104 : decode cX6_add 104 = .ok (.getfield 22, 3) := by decide +kernel
theorem dX6_add_107 : decode cX6_add 107 = .ok (.ireturn, 1) := by decide +kernel
theorem dX6_countOf_0 : decode cX6_countOf 0 = .ok (.iload_n 1, 1) := by decide +kernel
theorem dX6_countOf_1 : decode cX6_countOf 1 = .ok (.iconst 1, 1) := by decide +kernel
theorem dX6_countOf_2 : decode cX6_countOf 2 = .ok (.iadd, 1) := by decide +kernel
theorem dX6_countOf_3 : decode cX6_countOf 3 = .ok (.bipush 9, 2) := by decide +kernel
theorem dX6_countOf_5 : decode cX6_countOf 5 = .ok (.invokestatic 18, 3) := by decide +kernel
theorem dX6_countOf_8 : decode cX6_countOf 8 = .ok (.ifCond .eq 24, 3) := by decide +kernel
theorem dX6_countOf_11 : decode cX6_countOf 11 = .ok (.iload_n 2, 1) := by decide +kernel
theorem dX6_countOf_12 : decode cX6_countOf 12 = .ok (.iconst 1, 1) := by decide +kernel
theorem dX6_countOf_13 : decode cX6_countOf 13 = .ok (.iadd, 1) := by decide +kernel
theorem dX6_countOf_14 : decode cX6_countOf 14 = .ok (.bipush 13, 2) := by decide +kernel
theorem dX6_countOf_16 : decode cX6_countOf 16 = .ok (.invokestatic 18, 3) := by decide +kernel
theorem dX6_countOf_19 : decode cX6_countOf 19 = .ok (.ifCond .eq 13, 3) := by decide +kernel
theorem dX6_countOf_22 : decode cX6_countOf 22 = .ok (.iload_n 3, 1) := by decide +kernel
theorem dX6_countOf_23 : decode cX6_countOf 23 = .ok (.iconst 1, 1) := by decide +kernel
theorem dX6_countOf_24 : decode cX6_countOf 24 = .ok (.iadd, 1) := by decide +kernel
theorem dX6_countOf_25 : decode cX6_countOf 25 = .ok (.iconst 4, 1) := by decide +kernel
theorem dX6_countOf_26 : decode cX6_countOf 26 = .ok (.invokestatic 18, 3) := by decide +kernel
theorem dX6_countOf_29 : decode cX6_countOf 29 = .ok (.ifCond .ne 5, 3) := by decide +kernel
theorem dX6_countOf_32 : decode cX6_countOf 32 = .ok (.iconst (-1), 1) := by decide +kernel
theorem dX6_countOf_33 : decode cX6_countOf 33 = .ok (.ireturn, 1) := by decide +kernel
theorem dX6_countOf_34 : decode cX6_countOf 34 = .ok (.iconst 0, 1) := by decide +kernel
theorem dX6_countOf_35 : decode cX6_countOf 35 = .ok (.istore 5, 2) := by decide +kernel
theorem dX6_countOf_37 : decode cX6_countOf 37 = .ok (.iconst 0, 1) := by decide +kernel
theorem dX6_countOf_38 : decode cX6_countOf 38 = .ok (.istore 6, 2) := by decide +kernel
theorem dX6_countOf_40 : decode cX6_countOf 40 = .ok (.iload 6, 2) := by decide +kernel
theorem dX6_countOf_42 : decode cX6_countOf 42 = .ok (.aload_n 0, 1) := by decide +kernel
theorem dX6_countOf_43 : decode cX6_countOf 43 = .ok (.getfield 11, 3) := by decide +kernel
theorem dX6_countOf_46 : decode cX6_countOf 46 = .ok (.arraylength, 1) := by decide +kernel
theorem dX6_countOf_47 : decode cX6_countOf 47 = .ok (.if_icmp .ge 85, 3) := by decide +kernel
theorem dX6_countOf_50 : decode cX6_countOf 50 = .ok (.iload_n 1, 1) := by decide +kernel
theorem dX6_countOf_51 : decode cX6_countOf 51 = .ok (.iload 6, 2) := by decide +kernel
theorem dX6_countOf_53 : decode cX6_countOf 53 = .ok (.bipush 36, 2) := by decide +kernel
theorem dX6_countOf_55 : decode cX6_countOf 55 = .ok (.idiv, 1) := by decide +kernel
theorem dX6_countOf_56 : decode cX6_countOf 56 = .ok (.invokestatic 26, 3) := by decide +kernel
theorem dX6_countOf_59 : decode cX6_countOf 59 = .ok (.ifCond .eq 32, 3) := by decide +kernel
theorem dX6_countOf_62 : decode cX6_countOf 62 = .ok (.iload_n 2, 1) := by decide +kernel
theorem dX6_countOf_63 : decode cX6_countOf 63 = .ok (.iload 6, 2) := by decide +kernel
theorem dX6_countOf_65 : decode cX6_countOf 65 = .ok (.iconst 3, 1) := by decide +kernel
theorem dX6_countOf_66 : decode cX6_countOf 66 = .ok (.idiv, 1) := by decide +kernel
theorem dX6_countOf_67 : decode cX6_countOf 67 = .ok (.bipush 12, 2) := by decide +kernel
theorem dX6_countOf_69 : decode cX6_countOf 69 = .ok (.irem, 1) := by decide +kernel
theorem dX6_countOf_70 : decode cX6_countOf 70 = .ok (.invokestatic 26, 3) := by decide +kernel
theorem dX6_countOf_73 : decode cX6_countOf 73 = .ok (.ifCond .eq 18, 3) := by decide +kernel
theorem dX6_countOf_76 : decode cX6_countOf 76 = .ok (.iload_n 3, 1) := by decide +kernel
theorem dX6_countOf_77 : decode cX6_countOf 77 = .ok (.iload 6, 2) := by decide +kernel
theorem dX6_countOf_79 : decode cX6_countOf 79 = .ok (.iconst 3, 1) := by decide +kernel
theorem dX6_countOf_80 : decode cX6_countOf 80 = .ok (.irem, 1) := by decide +kernel
theorem dX6_countOf_81 : decode cX6_countOf 81 = .ok (.invokestatic 26, 3) := by decide +kernel
theorem dX6_countOf_84 : decode cX6_countOf 84 = .ok (.ifCond .eq 7, 3) := by decide +kernel
theorem dX6_countOf_87 : decode cX6_countOf 87 = .ok (.iconst 1, 1) := by decide +kernel
theorem dX6_countOf_88 : decode cX6_countOf 88 = .ok (.goto 4, 3) := by decide +kernel
theorem dX6_countOf_91 : decode cX6_countOf 91 = .ok (.iconst 0, 1) := by decide +kernel
theorem dX6_countOf_92 : decode cX6_countOf 92 = .ok (.istore 7, 2) := by decide +kernel
theorem dX6_countOf_94 : decode cX6_countOf 94 = .ok (.iload 7, 2) := by decide +kernel
theorem dX6_countOf_96 : decode cX6_countOf 96 = .ok (.ifCond .eq 30, 3) := by decide +kernel
theorem dX6_countOf_99 : decode cX6_countOf 99 = .ok (.iload 5, 2) := by decide +kernel
theorem dX6_countOf_101 : decode cX6_countOf 101 = .ok (.iload 4, 2) := by decide +kernel
theorem dX6_countOf_103 : decode cX6_countOf 103 = .ok (.ifCond .eq 13, 3) := by decide +kernel
theorem dX6_countOf_106 : decode cX6_countOf 106 = .ok (.aload_n 0, 1) := by decide +kernel
theorem dX6_countOf_107 : decode cX6_countOf 107 = .ok (.getfield 15, 3) := by decide +kernel
theorem dX6_countOf_110 : decode cX6_countOf 110 = .ok (.iload 6, 2) := by decide +kernel
theorem dX6_countOf_112 : decode cX6_countOf 112 = .ok (.iaload, 1) := by decide +kernel
theorem dX6_countOf_113 : decode cX6_countOf 113 = .ok (.goto 10, 3) := by decide +kernel
theorem dX6_countOf_116 : decode cX6_countOf 116 = .ok (.aload_n 0, 1) := by decide +kernel
theorem dX6_countOf_117 : decode cX6_countOf 117 = .ok (.getfield 11, 3) := by decide +kernel
theorem dX6_countOf_120 : decode cX6_countOf 120 = .ok (.iload 6, 2) := by decide +kernel
theorem dX6_countOf_122 : decode cX6_countOf 122 = .ok (.iaload, 1) := by decide +kernel
theorem dX6_countOf_123 : decode cX6_countOf 123 = .ok (.iadd, 1) := by decide +kernel
theorem dX6_countOf_124 : decode cX6_countOf 124 = .ok (.istore 5, 2) := by decide +kernel
theorem dX6_countOf_126 : decode cX6_countOf 126 = .ok (.iinc 6 1, 3) := by decide +kernel
theorem dX6_countOf_129 : decode cX6_countOf 129 = .ok (.goto (-89), 3) := by decide +kernel
theorem dX6_countOf_132 : decode cX6_countOf 132 = .ok (.iload 5, 2) := by decide +kernel
theorem dX6_countOf_134 : decode cX6_countOf 134 = .ok (.ireturn, 1) := by decide +kernel
theorem dX6_fits_0 : decode cX6_fits 0 = .ok (.iload_n 0, 1) := by decide +kernel
theorem dX6_fits_1 : decode cX6_fits 1 = .ok (.iconst (-1), 1) := by decide +kernel
theorem dX6_fits_2 : decode cX6_fits 2 = .ok (.if_icmp .eq 8, 3) := by decide +kernel
theorem dX6_fits_5 : decode cX6_fits 5 = .ok (.iload_n 0, 1) := by decide +kernel
theorem dX6_fits_6 : decode cX6_fits 6 = .ok (.iload_n 1, 1) := by decide +kernel
theorem dX6_fits_7 : decode cX6_fits 7 = .ok (.if_icmp .ne 7, 3) := by decide +kernel
theorem dX6_fits_10 : decode cX6_fits 10 = .ok (.iconst 1, 1) := by decide +kernel
theorem dX6_fits_11 : decode cX6_fits 11 = .ok (.goto 4, 3) := by decide +kernel
theorem dX6_fits_14 : decode cX6_fits 14 = .ok (.iconst 0, 1) := by decide +kernel
theorem dX6_fits_15 : decode cX6_fits 15 = .ok (.ireturn, 1) := by decide +kernel
theorem dX6_worstHarbour_0 : decode cX6_worstHarbour 0 = .ok (.iconst (-1), 1) := by decide +kernel
theorem dX6_worstHarbour_1 : decode cX6_worstHarbour 1 = .ok (.istore_n 1, 1) := by decide +kernel
theorem dX6_worstHarbour_2 : decode cX6_worstHarbour 2 = .ok (.iconst 0, 1) := by decide +kernel
theorem dX6_worstHarbour_3 : decode cX6_worstHarbour 3 = .ok (.istore_n 2, 1) := by decide +kernel
theorem dX6_worstHarbour_4 : decode cX6_worstHarbour 4 = .ok (.iconst 1, 1) := by decide +kernel
theorem dX6_worstHarbour_5 : decode cX6_worstHarbour 5 = .ok (.istore_n 3, 1) := by decide +kernel
theorem dX6_worstHarbour_6 : decode cX6_worstHarbour 6 = .ok (.iconst 0, 1) := by decide +kernel
theorem dX6_worstHarbour_7 : decode cX6_worstHarbour 7 = .ok (.istore 4, 2) := by decide +kernel
theorem dX6_worstHarbour_9 : decode cX6_worstHarbour 9 = .ok (.iload 4, 2) := by decide +kernel
theorem dX6_worstHarbour_11 : decode cX6_worstHarbour 11 = .ok (.bipush 8, 2) := by decide +kernel
theorem dX6_worstHarbour_13 : decode cX6_worstHarbour 13 = .ok (.if_icmp .ge 62, 3) := by decide +kernel
theorem dX6_worstHarbour_16 : decode cX6_worstHarbour 16 = .ok (.aload_n 0, 1) := by decide +kernel
theorem dX6_worstHarbour_17 : decode cX6_worstHarbour 17 = .ok (.iload 4, 2) := by decide +kernel
theorem dX6_worstHarbour_19 : decode cX6_worstHarbour 19 = .ok (.iconst (-1), 1) := by decide +kernel
theorem dX6_worstHarbour_20 : decode cX6_worstHarbour 20 = .ok (.iconst (-1), 1) := by decide +kernel
theorem dX6_worstHarbour_21 : decode cX6_worstHarbour 21 = .ok (.iconst 0, 1) := by decide +kernel
theorem dX6_worstHarbour_22 : decode cX6_worstHarbour 22 = .ok (.invokevirtual 29, 3) := by decide +kernel
theorem dX6_worstHarbour_25 : decode cX6_worstHarbour 25 = .ok (.istore 5, 2) := by decide +kernel
theorem dX6_worstHarbour_27 : decode cX6_worstHarbour 27 = .ok (.aload_n 0, 1) := by decide +kernel
theorem dX6_worstHarbour_28 : decode cX6_worstHarbour 28 = .ok (.iload 4, 2) := by decide +kernel
theorem dX6_worstHarbour_30 : decode cX6_worstHarbour 30 = .ok (.iconst (-1), 1) := by decide +kernel
theorem dX6_worstHarbour_31 : decode cX6_worstHarbour 31 = .ok (.iconst (-1), 1) := by decide +kernel
theorem dX6_worstHarbour_32 : decode cX6_worstHarbour 32 = .ok (.iconst 1, 1) := by decide +kernel
theorem dX6_worstHarbour_33 : decode cX6_worstHarbour 33 = .ok (.invokevirtual 29, 3) := by decide +kernel
theorem dX6_worstHarbour_36 : decode cX6_worstHarbour 36 = .ok (.iconst 1, 1) := by decide +kernel
theorem dX6_worstHarbour_37 : decode cX6_worstHarbour 37 = .ok (.iadd, 1) := by decide +kernel
theorem dX6_worstHarbour_38 : decode cX6_worstHarbour 38 = .ok (.istore 6, 2) := by decide +kernel
theorem dX6_worstHarbour_40 : decode cX6_worstHarbour 40 = .ok (.iload 5, 2) := by decide +kernel
theorem dX6_worstHarbour_42 : decode cX6_worstHarbour 42 = .ok (.ifCond .le 27, 3) := by decide +kernel
theorem dX6_worstHarbour_45 : decode cX6_worstHarbour 45 = .ok (.iload 6, 2) := by decide +kernel
theorem dX6_worstHarbour_47 : decode cX6_worstHarbour 47 = .ok (.iload_n 3, 1) := by decide +kernel
theorem dX6_worstHarbour_48 : decode cX6_worstHarbour 48 = .ok (.imul, 1) := by decide +kernel
theorem dX6_worstHarbour_49 : decode cX6_worstHarbour 49 = .ok (.iload_n 2, 1) := by decide +kernel
theorem dX6_worstHarbour_50 : decode cX6_worstHarbour 50 = .ok (.iload 5, 2) := by decide +kernel
theorem dX6_worstHarbour_52 : decode cX6_worstHarbour 52 = .ok (.iconst 2, 1) := by decide +kernel
theorem dX6_worstHarbour_53 : decode cX6_worstHarbour 53 = .ok (.iadd, 1) := by decide +kernel
theorem dX6_worstHarbour_54 : decode cX6_worstHarbour 54 = .ok (.imul, 1) := by decide +kernel
theorem dX6_worstHarbour_55 : decode cX6_worstHarbour 55 = .ok (.if_icmp .le 14, 3) := by decide +kernel
theorem dX6_worstHarbour_58 : decode cX6_worstHarbour 58 = .ok (.iload 4, 2) := by decide +kernel
theorem dX6_worstHarbour_60 : decode cX6_worstHarbour 60 = .ok (.istore_n 1, 1) := by decide +kernel
theorem dX6_worstHarbour_61 : decode cX6_worstHarbour 61 = .ok (.iload 6, 2) := by decide +kernel
theorem dX6_worstHarbour_63 : decode cX6_worstHarbour 63 = .ok (.istore_n 2, 1) := by decide +kernel
theorem dX6_worstHarbour_64 : decode cX6_worstHarbour 64 = .ok (.iload 5, 2) := by decide +kernel
theorem dX6_worstHarbour_66 : decode cX6_worstHarbour 66 = .ok (.iconst 2, 1) := by decide +kernel
theorem dX6_worstHarbour_67 : decode cX6_worstHarbour 67 = .ok (.iadd, 1) := by decide +kernel
theorem dX6_worstHarbour_68 : decode cX6_worstHarbour 68 = .ok (.istore_n 3, 1) := by decide +kernel
theorem dX6_worstHarbour_69 : decode cX6_worstHarbour 69 = .ok (.iinc 4 1, 3) := by decide +kernel
theorem dX6_worstHarbour_72 : decode cX6_worstHarbour 72 = .ok (.goto (-63), 3) := by decide +kernel
theorem dX6_worstHarbour_75 : decode cX6_worstHarbour 75 = .ok (.iload_n 1, 1) := by decide +kernel
theorem dX6_worstHarbour_76 : decode cX6_worstHarbour 76 = .ok (.ireturn, 1) := by decide +kernel
