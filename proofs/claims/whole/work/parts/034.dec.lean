theorem dX5_armTenths_22 : decode cX5_armTenths 22 = .ok (.aload_n 0, 1) := by decide +kernel
theorem dX5_armTenths_23 : decode cX5_armTenths 23 = .ok (.getfield 20, 3) := by decide +kernel
theorem dX5_armTenths_26 : decode cX5_armTenths 26 = .ok (.arraylength, 1) := by decide +kernel
theorem dX5_armTenths_27 : decode cX5_armTenths 27 = .ok (.iconst 1, 1) := by decide +kernel
theorem dX5_armTenths_28 : decode cX5_armTenths 28 = .ok (.isub, 1) := by decide +kernel
theorem dX5_armTenths_29 : decode cX5_armTenths 29 = .ok (.invokestatic 55, 3) := by decide +kernel
theorem dX5_armTenths_32 : decode cX5_armTenths 32 = .ok (.istore_n 3, 1) := by decide +kernel
theorem dX5_armTenths_33 : decode cX5_armTenths 33 = .ok (.bipush 10, 2) := by decide +kernel
theorem dX5_armTenths_35 : decode cX5_armTenths 35 = .ok (.aload_n 0, 1) := by decide +kernel
theorem dX5_armTenths_36 : decode cX5_armTenths 36 = .ok (.getfield 20, 3) := by decide +kernel
theorem dX5_armTenths_39 : decode cX5_armTenths 39 = .ok (.iload_n 2, 1) := by decide +kernel
theorem dX5_armTenths_40 : decode cX5_armTenths 40 = .ok (.iaload, 1) := by decide +kernel
theorem dX5_armTenths_41 : decode cX5_armTenths 41 = .ok (.imul, 1) := by decide +kernel
theorem dX5_armTenths_42 : decode cX5_armTenths 42 = .ok (.aload_n 0, 1) := by decide +kernel
theorem dX5_armTenths_43 : decode cX5_armTenths 43 = .ok (.getfield 20, 3) := by decide +kernel
theorem dX5_armTenths_46 : decode cX5_armTenths 46 = .ok (.iload_n 3, 1) := by decide +kernel
theorem dX5_armTenths_47 : decode cX5_armTenths 47 = .ok (.iaload, 1) := by decide +kernel
theorem dX5_armTenths_48 : decode cX5_armTenths 48 = .ok (.aload_n 0, 1) := by decide +kernel
theorem dX5_armTenths_49 : decode cX5_armTenths 49 = .ok (.getfield 20, 3) := by decide +kernel
theorem dX5_armTenths_52 : decode cX5_armTenths 52 = .ok (.iload_n 2, 1) := by decide +kernel
theorem dX5_armTenths_53 : decode cX5_armTenths 53 = .ok (.iaload, 1) := by decide +kernel
theorem dX5_armTenths_54 : decode cX5_armTenths 54 = .ok (.isub, 1) := by decide +kernel
theorem dX5_armTenths_55 : decode cX5_armTenths 55 = .ok (.iload_n 1, 1) := by decide +kernel
theorem dX5_armTenths_56 : decode cX5_armTenths 56 = .ok (.bipush 10, 2) := by decide +kernel
theorem dX5_armTenths_58 : decode cX5_armTenths 58 = .ok (.irem, 1) := by decide +kernel
theorem dX5_armTenths_59 : decode cX5_armTenths 59 = .ok (.imul, 1) := by decide +kernel
theorem dX5_armTenths_60 : decode cX5_armTenths 60 = .ok (.iadd, 1) := by decide +kernel
theorem dX5_armTenths_61 : decode cX5_armTenths 61 = .ok (.ireturn, 1) := by decide +kernel
theorem dX5_moment_0 : decode cX5_moment 0 = .ok (.iconst 0, 1) := by decide +kernel
theorem dX5_moment_1 : decode cX5_moment 1 = .ok (.istore_n 1, 1) := by decide +kernel
theorem dX5_moment_2 : decode cX5_moment 2 = .ok (.iconst 0, 1) := by decide +kernel
theorem dX5_moment_3 : decode cX5_moment 3 = .ok (.istore_n 2, 1) := by decide +kernel
theorem dX5_moment_4 : decode cX5_moment 4 = .ok (.iload_n 2, 1) := by decide +kernel
theorem dX5_moment_5 : decode cX5_moment 5 = .ok (.aload_n 0, 1) := by decide +kernel
theorem dX5_moment_6 : decode cX5_moment 6 = .ok (.getfield 14, 3) := by decide +kernel
theorem dX5_moment_9 : decode cX5_moment 9 = .ok (.getfield 61, 3) := by decide +kernel
theorem dX5_moment_12 : decode cX5_moment 12 = .ok (.arraylength, 1) := by decide +kernel
theorem dX5_moment_13 : decode cX5_moment 13 = .ok (.if_icmp .ge 28, 3) := by decide +kernel
theorem dX5_moment_16 : decode cX5_moment 16 = .ok (.iload_n 1, 1) := by decide +kernel
theorem dX5_moment_17 : decode cX5_moment 17 = .ok (.aload_n 0, 1) := by decide +kernel
theorem dX5_moment_18 : decode cX5_moment 18 = .ok (.iload_n 2, 1) := by decide +kernel
theorem dX5_moment_19 : decode cX5_moment 19 = .ok (.invokevirtual 64, 3) := by decide +kernel
theorem dX5_moment_22 : decode cX5_moment 22 = .ok (.iload_n 2, 1) := by decide +kernel
theorem dX5_moment_23 : decode cX5_moment 23 = .ok (.bipush 6, 2) := by decide +kernel
theorem dX5_moment_25 : decode cX5_moment 25 = .ok (.idiv, 1) := by decide +kernel
theorem dX5_moment_26 : decode cX5_moment 26 = .ok (.bipush 6, 2) := by decide +kernel
theorem dX5_moment_28 : decode cX5_moment 28 = .ok (.irem, 1) := by decide +kernel
theorem dX5_moment_29 : decode cX5_moment 29 = .ok (.invokestatic 68, 3) := by decide +kernel
theorem dX5_moment_32 : decode cX5_moment 32 = .ok (.imul, 1) := by decide +kernel
theorem dX5_moment_33 : decode cX5_moment 33 = .ok (.iadd, 1) := by decide +kernel
theorem dX5_moment_34 : decode cX5_moment 34 = .ok (.istore_n 1, 1) := by decide +kernel
theorem dX5_moment_35 : decode cX5_moment 35 = .ok (.iinc 2 1, 3) := by decide +kernel
theorem dX5_moment_38 : decode cX5_moment 38 = .ok (.goto (-34), 3) := by decide +kernel
theorem dX5_moment_41 : decode cX5_moment 41 = .ok (.iload_n 1, 1) := by decide +kernel
theorem dX5_moment_42 : decode cX5_moment 42 = .ok (.ireturn, 1) := by decide +kernel
theorem dX5_weight_0 : decode cX5_weight 0 = .ok (.sipush 2000, 3) := by decide +kernel
theorem dX5_weight_3 : decode cX5_weight 3 = .ok (.istore_n 1, 1) := by decide +kernel
theorem dX5_weight_4 : decode cX5_weight 4 = .ok (.iconst 0, 1) := by decide +kernel
theorem dX5_weight_5 : decode cX5_weight 5 = .ok (.istore_n 2, 1) := by decide +kernel
theorem dX5_weight_6 : decode cX5_weight 6 = .ok (.iload_n 2, 1) := by decide +kernel
theorem dX5_weight_7 : decode cX5_weight 7 = .ok (.aload_n 0, 1) := by decide +kernel
theorem dX5_weight_8 : decode cX5_weight 8 = .ok (.getfield 14, 3) := by decide +kernel
theorem dX5_weight_11 : decode cX5_weight 11 = .ok (.getfield 61, 3) := by decide +kernel
theorem dX5_weight_14 : decode cX5_weight 14 = .ok (.arraylength, 1) := by decide +kernel
theorem dX5_weight_15 : decode cX5_weight 15 = .ok (.if_icmp .ge 17, 3) := by decide +kernel
theorem dX5_weight_18 : decode cX5_weight 18 = .ok (.iload_n 1, 1) := by decide +kernel
theorem dX5_weight_19 : decode cX5_weight 19 = .ok (.aload_n 0, 1) := by decide +kernel
theorem dX5_weight_20 : decode cX5_weight 20 = .ok (.iload_n 2, 1) := by decide +kernel
theorem dX5_weight_21 : decode cX5_weight 21 = .ok (.invokevirtual 64, 3) := by decide +kernel
theorem dX5_weight_24 : decode cX5_weight 24 = .ok (.iadd, 1) := by decide +kernel
theorem dX5_weight_25 : decode cX5_weight 25 = .ok (.istore_n 1, 1) := by decide +kernel
theorem dX5_weight_26 : decode cX5_weight 26 = .ok (.iinc 2 1, 3) := by decide +kernel
theorem dX5_weight_29 : decode cX5_weight 29 = .ok (.goto (-23), 3) := by decide +kernel
theorem dX5_weight_32 : decode cX5_weight 32 = .ok (.iload_n 1, 1) := by decide +kernel
theorem dX5_weight_33 : decode cX5_weight 33 = .ok (.ireturn, 1) := by decide +kernel
theorem dX5_leanNow_0 : decode cX5_leanNow 0 = .ok (.aload_n 0, 1) := by decide +kernel
theorem dX5_leanNow_1 : decode cX5_leanNow 1 = .ok (.invokevirtual 98, 3) := by decide +kernel
theorem dX5_leanNow_4 : decode cX5_leanNow 4 = .ok (.istore_n 1, 1) := by decide +kernel
theorem dX5_leanNow_5 : decode cX5_leanNow 5 = .ok (.aload_n 0, 1) := by decide +kernel
theorem dX5_leanNow_6 : decode cX5_leanNow 6 = .ok (.invokevirtual 101, 3) := by decide +kernel
theorem dX5_leanNow_9 : decode cX5_leanNow 9 = .ok (.i2l, 1) := by decide +kernel
theorem dX5_leanNow_10 : decode cX5_leanNow 10 = .ok (.lstore_n 2, 1) := by decide +kernel
theorem dX5_leanNow_11 : decode cX5_leanNow 11 = .ok (.ldc2_w 104, 3) := by decide +kernel
theorem dX5_leanNow_14 : decode cX5_leanNow 14 = .ok (.iload_n 1, 1) := by decide +kernel
theorem dX5_leanNow_15 : decode cX5_leanNow 15 = .ok (.invokestatic 89, 3) := by decide +kernel
theorem dX5_leanNow_18 : decode cX5_leanNow 18 = .ok (.i2l, 1) := by decide +kernel
theorem dX5_leanNow_19 : decode cX5_leanNow 19 = .ok (.lmul, 1) := by decide +kernel
theorem dX5_leanNow_20 : decode cX5_leanNow 20 = .ok (.lstore 4, 2) := by decide +kernel
theorem dX5_leanNow_22 : decode cX5_leanNow 22 = .ok (.iconst 0, 1) := by decide +kernel
theorem dX5_leanNow_23 : decode cX5_leanNow 23 = .ok (.istore 6, 2) := by decide +kernel
theorem dX5_leanNow_25 : decode cX5_leanNow 25 = .ok (.iload 6, 2) := by decide +kernel
theorem dX5_leanNow_27 : decode cX5_leanNow 27 = .ok (.bipush 60, 2) := by decide +kernel
theorem dX5_leanNow_29 : decode cX5_leanNow 29 = .ok (.if_icmp .gt 24, 3) := by decide +kernel
theorem dX5_leanNow_32 : decode cX5_leanNow 32 = .ok (.aload_n 0, 1) := by decide +kernel
theorem dX5_leanNow_33 : decode cX5_leanNow 33 = .ok (.iload 6, 2) := by decide +kernel
theorem dX5_leanNow_35 : decode cX5_leanNow 35 = .ok (.invokevirtual 106, 3) := by decide +kernel
theorem dX5_leanNow_38 : decode cX5_leanNow 38 = .ok (.i2l, 1) := by decide +kernel
theorem dX5_leanNow_39 : decode cX5_leanNow 39 = .ok (.lload_n 2, 1) := by decide +kernel
theorem dX5_leanNow_40 : decode cX5_leanNow 40 = .ok (.lmul, 1) := by decide +kernel
theorem dX5_leanNow_41 : decode cX5_leanNow 41 = .ok (.lload 4, 2) := by decide +kernel
theorem dX5_leanNow_43 : decode cX5_leanNow 43 = .ok (.lcmp, 1) := by decide +kernel
theorem dX5_leanNow_44 : decode cX5_leanNow 44 = .ok (.ifCond .ge 9, 3) := by decide +kernel
theorem dX5_leanNow_47 : decode cX5_leanNow 47 = .ok (.iinc 6 1, 3) := by decide +kernel
theorem dX5_leanNow_50 : decode cX5_leanNow 50 = .ok (.goto (-25), 3) := by decide +kernel
theorem dX5_leanNow_53 : decode cX5_leanNow 53 = .ok (.iload_n 1, 1) := by decide +kernel
theorem dX5_leanNow_54 : decode cX5_leanNow 54 = .ok (.ifCond .ge 9, 3) := by decide +kernel
theorem dX5_leanNow_57 : decode cX5_leanNow 57 = .ok (.iload 6, 2) := by decide +kernel
theorem dX5_leanNow_59 : decode cX5_leanNow 59 = .ok (.ineg, 1) := by decide +kernel
theorem dX5_leanNow_60 : decode cX5_leanNow 60 = .ok (.goto 5, 3) := by decide +kernel
theorem dX5_leanNow_63 : decode cX5_leanNow 63 = .ok (.iload 6, 2) := by decide +kernel
theorem dX5_leanNow_65 : decode cX5_leanNow 65 = .ok (.ireturn, 1) := by decide +kernel
theorem dX6_add_0 : decode cX6_add 0 = .ok (.iload_n 1, 1) := by decide +kernel
theorem dX6_add_1 : decode cX6_add 1 = .ok (.bipush 8, 2) := by decide +kernel
theorem dX6_add_3 : decode cX6_add 3 = .ok (.invokestatic 18, 3) := by decide +kernel
theorem dX6_add_6 : decode cX6_add 6 = .ok (.ifCond .eq 24, 3) := by decide +kernel
theorem dX6_add_9 : decode cX6_add 9 = .ok (.iload_n 2, 1) := by decide +kernel
theorem dX6_add_10 : decode cX6_add 10 = .ok (.bipush 12, 2) := by decide +kernel
theorem dX6_add_12 : decode cX6_add 12 = .ok (.invokestatic 18, 3) := by decide +kernel
theorem dX6_add_15 : decode cX6_add 15 = .ok (.ifCond .eq 15, 3) := by decide +kernel
theorem dX6_add_18 : decode cX6_add 18 = .ok (.iload_n 3, 1) := by decide +kernel
theorem dX6_add_19 : decode cX6_add 19 = .ok (.iconst 3, 1) := by decide +kernel
theorem dX6_add_20 : decode cX6_add 20 = .ok (.invokestatic 18, 3) := by decide +kernel
theorem dX6_add_23 : decode cX6_add 23 = .ok (.ifCond .eq 7, 3) := by decide +kernel
theorem dX6_add_26 : decode cX6_add 26 = .ok (.iconst 1, 1) := by decide +kernel
theorem dX6_add_27 : decode cX6_add 27 = .ok (.goto 4, 3) := by decide +kernel
theorem dX6_add_30 : decode cX6_add 30 = .ok (.iconst 0, 1) := by decide +kernel
theorem dX6_add_31 : decode cX6_add 31 = .ok (.istore 5, 2) := by decide +kernel
theorem dX6_add_33 : decode cX6_add 33 = .ok (.iload 5, 2) := by decide +kernel
theorem dX6_add_35 : decode cX6_add 35 = .ok (.ifCond .eq 13, 3) := by decide +kernel
theorem dX6_add_38 : decode cX6_add 38 = .ok (.aload_n 0, 1) := by decide +kernel
theorem dX6_add_39 : decode cX6_add 39 = .ok (.getfield 22, 3) := by decide +kernel
theorem dX6_add_42 : decode cX6_add 42 = .ok (.sipush 200, 3) := by decide +kernel
theorem dX6_add_45 : decode cX6_add 45 = .ok (.if_icmp .lt 5, 3) := by decide +kernel
theorem dX6_add_48 : decode cX6_add 48 = .ok (.iconst (-1), 1) := by decide +kernel
theorem dX6_add_49 : decode cX6_add 49 = .ok (.ireturn, 1) := by decide +kernel
theorem dX6_add_50 : decode cX6_add 50 = .ok (.iload_n 1, 1) := by decide +kernel
theorem dX6_add_51 : decode cX6_add 51 = .ok (.bipush 12, 2) := by decide +kernel
theorem dX6_add_53 : decode cX6_add 53 = .ok (.imul, 1) := by decide +kernel
theorem dX6_add_54 : decode cX6_add 54 = .ok (.iload_n 2, 1) := by decide +kernel
theorem dX6_add_55 : decode cX6_add 55 = .ok (.iadd, 1) := by decide +kernel
theorem dX6_add_56 : decode cX6_add 56 = .ok (.iconst 3, 1) := by decide +kernel
theorem dX6_add_57 : decode cX6_add 57 = .ok (.imul, 1) := by decide +kernel
theorem dX6_add_58 : decode cX6_add 58 = .ok (.iload_n 3, 1) := by decide +kernel
theorem dX6_add_59 : decode cX6_add 59 = .ok (.iadd, 1) := by decide +kernel
theorem dX6_add_60 : decode cX6_add 60 = .ok (.istore 6, 2) := by decide +kernel
theorem dX6_add_62 : decode cX6_add 62 = .ok (.aload_n 0, 1) := by decide +kernel
theorem dX6_add_63 : decode cX6_add 63 = .ok (.getfield 11, 3) := by decide +kernel
theorem dX6_add_66 : decode cX6_add 66 = .ok (.iload 6, 2) := by decide +kernel
theorem dX6_add_68 : decode cX6_add 68 = .ok (.dup2, 1) := by decide +kernel
theorem dX6_add_69 : decode cX6_add 69 = .ok (.iaload, 1) := by decide +kernel
theorem dX6_add_70 : decode cX6_add 70 = .ok (.iconst 1, 1) := by decide +kernel
theorem dX6_add_71 : decode cX6_add 71 = .ok (.iadd, 1) := by decide +kernel
theorem dX6_add_72 : decode cX6_add 72 = .ok (.iastore, 1) := by decide +kernel
theorem dX6_add_73 : decode cX6_add 73 = .ok (.aload_n 0, 1) := by decide +kernel
theorem dX6_add_74 : decode cX6_add 74 = .ok (.getfield 15, 3) := by decide +kernel
theorem dX6_add_77 : decode cX6_add 77 = .ok (.iload 6, 2) := by decide +kernel
theorem dX6_add_79 : decode cX6_add 79 = .ok (.dup2, 1) := by decide +kernel
theorem dX6_add_80 : decode cX6_add 80 = .ok (.iaload, 1) := by decide +kernel
theorem dX6_add_81 : decode cX6_add 81 = .ok (.iload 4, 2) := by decide +kernel
theorem dX6_add_83 : decode cX6_add 83 = .ok (.ifCond .eq 7, 3) := by decide +kernel
theorem dX6_add_86 : decode cX6_add 86 = .ok (.iconst 1, 1) := by decide +kernel
theorem dX6_add_87 : decode cX6_add 87 = .ok (.goto 4, 3) := by decide +kernel
theorem dX6_add_90 : decode cX6_add 90 = .ok (.iconst 0, 1) := by decide +kernel
theorem dX6_add_91 : decode cX6_add 91 = .ok (.iadd, 1) := by decide +kernel
theorem dX6_add_92 : decode cX6_add 92 = .ok (.iastore, 1) := by decide +kernel
theorem dX6_add_93 : decode cX6_add 93 = .ok (.aload_n 0, 1) := by decide +kernel
theorem dX6_add_94 : decode cX6_add 94 = .ok (.dup, 1) := by decide +kernel
theorem dX6_add_95 : decode cX6_add 95 = .ok (.getfield 22, 3) := by decide +kernel
theorem dX6_add_98 : decode cX6_add 98 = .ok (.iconst 1, 1) := by decide +kernel
theorem dX6_add_99 : decode cX6_add 99 = .ok (.iadd, 1) := by decide +kernel
theorem dX6_add_100 : decode cX6_add 100 = .ok (.putfield 22, 3) := by decide +kernel
theorem dX6_add_103 : decode cX6_add 103 = .ok (.aload_n 0, 1) := by decide +kernel
theorem dX6_add_104 : decode cX6_add 104 = .ok (.getfield 22, 3) := by decide +kernel
theorem dX6_add_107 : decode cX6_add 107 = .ok (.ireturn, 1) := by decide +kernel
theorem dX6_countOf_0 : decode cX6_countOf 0 = .ok (.iload_n 1, 1) := by decide +kernel
theorem dX6_countOf_1 : decode cX6_countOf 1 = .ok (.iconst 1, 1) := by decide +kernel
theorem dX6_countOf_2 : decode cX6_countOf 2 = .ok (.iadd, 1) := by decide +kernel
theorem dX6_countOf_3 : decode cX6_countOf 3 = .ok (.bipush 9, 2) := by decide +kernel
theorem dX6_countOf_5 : decode cX6_countOf 5 = .ok (.invokestatic 18, 3) := by decide +kernel
theorem dX6_countOf_8 : decode cX6_countOf 8 = .ok (.ifCond .eq 24, 3) := by decide +kernel
theorem dX6_countOf_11 : decode cX6_countOf 11 = .ok (.iload_n 2, 1) := by decide +kernel
theorem dX6_countOf_12 : decode cX6_countOf 12 = .ok (.iconst 1, 1) := by decide +kernel
theorem dX6_countOf_13 : decode cX6_countOf 13 = .ok (.iadd, 1) := by decide +kernel
theorem dX6_countOf_14 : decode cX6_countOf 14 = .ok (.bipush 13, 2) := by decide +kernel
theorem dX6_countOf_16 : decode cX6_countOf 16 = .ok (.invokestatic 18, 3) := by decide +kernel
theorem dX6_countOf_19 : decode cX6_countOf 19 = .ok (.ifCond .eq 13, 3) := by decide +kernel
theorem dX6_countOf_22 : decode cX6_countOf 22 = .ok (.iload_n 3, 1) := by decide +kernel
theorem dX6_countOf_23 : decode cX6_countOf 23 = .ok (.iconst 1, 1) := by decide +kernel
theorem dX6_countOf_24 : decode cX6_countOf 24 = .ok (.iadd, 1) := by decide +kernel
theorem dX6_countOf_25 : decode cX6_countOf 25 = .ok (.iconst 4, 1) := by decide +kernel
theorem dX6_countOf_26 : decode cX6_countOf 26 = .ok (.invokestatic 18, 3) := by decide +kernel
theorem dX6_countOf_29 : decode cX6_countOf 29 = .ok (.ifCond .ne 5, 3) := by decide +kernel
theorem dX6_countOf_32 : decode cX6_countOf 32 = .ok (.iconst (-1), 1) := by decide +kernel
theorem dX6_countOf_33 : decode cX6_countOf 33 = .ok (.ireturn, 1) := by decide +kernel
theorem dX6_countOf_34 : decode cX6_countOf 34 = .ok (.iconst 0, 1) := by decide +kernel
theorem dX6_countOf_35 : decode cX6_countOf 35 = .ok (.istore 5, 2) := by decide +kernel
theorem dX6_countOf_37 : decode cX6_countOf 37 = .ok (.iconst 0, 1) := by decide +kernel
theorem dX6_countOf_38 : decode cX6_countOf 38 = .ok (.istore 6, 2) := by decide +kernel
theorem dX6_countOf_40 : decode cX6_countOf 40 = .ok (.iload 6, 2) := by decide +kernel
theorem dX6_countOf_42 : decode cX6_countOf 42 = .ok (.aload_n 0, 1) := by decide +kernel
theorem dX6_countOf_43 : decode cX6_countOf 43 = .ok (.getfield 11, 3) := by decide +kernel
theorem dX6_countOf_46 : decode cX6_countOf 46 = .ok (.arraylength, 1) := by decide +kernel
theorem dX6_countOf_47 : decode cX6_countOf 47 = .ok (.if_icmp .ge 85, 3) := by decide +kernel
theorem dX6_countOf_50 : decode cX6_countOf 50 = .ok (.iload_n 1, 1) := by decide +kernel
theorem dX6_countOf_51 : decode cX6_countOf 51 = .ok (.iload 6, 2) := by decide +kernel
theorem dX6_countOf_53 : decode cX6_countOf 53 = .ok (.bipush 36, 2) := by decide +kernel
theorem dX6_countOf_55 : decode cX6_countOf 55 = .ok (.idiv, 1) := by decide +kernel
theorem dX6_countOf_56 : decode cX6_countOf 56 = .ok (.invokestatic 26, 3) := by decide +kernel
theorem dX6_countOf_59 : decode cX6_countOf 59 = .ok (.ifCond .eq 32, 3) := by decide +kernel
theorem dX6_countOf_62 : decode cX6_countOf 62 = .ok (.iload_n 2, 1) := by decide +kernel
theorem dX6_countOf_63 : decode cX6_countOf 63 = .ok (.iload 6, 2) := by decide +kernel
theorem dX6_countOf_65 : decode cX6_countOf 65 = .ok (.iconst 3, 1) := by decide +kernel
theorem dX6_countOf_66 : decode cX6_countOf 66 = .ok (.idiv, 1) := by decide +kernel
theorem dX6_countOf_67 : decode cX6_countOf 67 = .ok (.bipush 12, 2) := by decide +kernel
theorem dX6_countOf_69 : decode cX6_countOf 69 = .ok (.irem, 1) := by decide +kernel
theorem dX6_countOf_70 : decode cX6_countOf 70 = .ok (.invokestatic 26, 3) := by decide +kernel
theorem dX6_countOf_73 : decode cX6_countOf 73 = .ok (.ifCond .eq 18, 3) := by decide +kernel
theorem dX6_countOf_76 : decode cX6_countOf 76 = .ok (.iload_n 3, 1) := by decide +kernel
theorem dX6_countOf_77 : decode cX6_countOf 77 = .ok (.iload 6, 2) := by decide +kernel
theorem dX6_countOf_79 : decode cX6_countOf 79 = .ok (.iconst 3, 1) := by decide +kernel
theorem dX6_countOf_80 : decode cX6_countOf 80 = .ok (.irem, 1) := by decide +kernel
theorem dX6_countOf_81 : decode cX6_countOf 81 = .ok (.invokestatic 26, 3) := by decide +kernel
theorem dX6_countOf_84 : decode cX6_countOf 84 = .ok (.ifCond .eq 7, 3) := by decide +kernel
theorem dX6_countOf_87 : decode cX6_countOf 87 = .ok (.iconst 1, 1) := by decide +kernel
theorem dX6_countOf_88 : decode cX6_countOf 88 = .ok (.goto 4, 3) := by decide +kernel
theorem dX6_countOf_91 : decode cX6_countOf 91 = .ok (.iconst 0, 1) := by decide +kernel
theorem dX6_countOf_92 : decode cX6_countOf 92 = .ok (.istore 7, 2) := by decide +kernel
theorem dX6_countOf_94 : decode cX6_countOf 94 = .ok (.iload 7, 2) := by decide +kernel
theorem dX6_countOf_96 : decode cX6_countOf 96 = .ok (.ifCond .eq 30, 3) := by decide +kernel
theorem dX6_countOf_99 : decode cX6_countOf 99 = .ok (.iload 5, 2) := by decide +kernel
theorem dX6_countOf_101 : decode cX6_countOf 101 = .ok (.iload 4, 2) := by decide +kernel
theorem dX6_countOf_103 : decode cX6_countOf 103 = .ok (.ifCond .eq 13, 3) := by decide +kernel
theorem dX6_countOf_106 : decode cX6_countOf 106 = .ok (.aload_n 0, 1) := by decide +kernel
theorem dX6_countOf_107 : decode cX6_countOf 107 = .ok (.getfield 15, 3) := by decide +kernel
theorem dX6_countOf_110 : decode cX6_countOf 110 = .ok (.iload 6, 2) := by decide +kernel
theorem dX6_countOf_112 : decode cX6_countOf 112 = .ok (.iaload, 1) := by decide +kernel
theorem dX6_countOf_113 : decode cX6_countOf 113 = .ok (.goto 10, 3) := by decide +kernel
theorem dX6_countOf_116 : decode cX6_countOf 116 = .ok (.aload_n 0, 1) := by decide +kernel
theorem dX6_countOf_117 : decode cX6_countOf 117 = .ok (.getfield 11, 3) := by decide +kernel
theorem dX6_countOf_120 : decode cX6_countOf 120 = .ok (.iload 6, 2) := by decide +kernel
theorem dX6_countOf_122 : decode cX6_countOf 122 = .ok (.iaload, 1) := by decide +kernel
theorem dX6_countOf_123 : decode cX6_countOf 123 = .ok (.iadd, 1) := by decide +kernel
theorem dX6_countOf_124 : decode cX6_countOf 124 = .ok (.istore 5, 2) := by decide +kernel
theorem dX6_countOf_126 : decode cX6_countOf 126 = .ok (.iinc 6 1, 3) := by decide +kernel
theorem dX6_countOf_129 : decode cX6_countOf 129 = .ok (.goto (-89), 3) := by decide +kernel
theorem dX6_countOf_132 : decode cX6_countOf 132 = .ok (.iload 5, 2) := by decide +kernel
theorem dX6_countOf_134 : decode cX6_countOf 134 = .ok (.ireturn, 1) := by decide +kernel
theorem dX6_worstHarbour_0 : decode cX6_worstHarbour 0 = .ok (.iconst (-1), 1) := by decide +kernel
theorem dX6_worstHarbour_1 : decode cX6_worstHarbour 1 = .ok (.istore_n 1, 1) := by decide +kernel
theorem dX6_worstHarbour_2 : decode cX6_worstHarbour 2 = .ok (.iconst 0, 1) := by decide +kernel
theorem dX6_worstHarbour_3 : decode cX6_worstHarbour 3 = .ok (.istore_n 2, 1) := by decide +kernel
theorem dX6_worstHarbour_4 : decode cX6_worstHarbour 4 = .ok (.iconst 1, 1) := by decide +kernel
theorem dX6_worstHarbour_5 : decode cX6_worstHarbour 5 = .ok (.istore_n 3, 1) := by decide +kernel
theorem dX6_worstHarbour_6 : decode cX6_worstHarbour 6 = .ok (.iconst 0, 1) := by decide +kernel
theorem dX6_worstHarbour_7 : decode cX6_worstHarbour 7 = .ok (.istore 4, 2) := by decide +kernel
theorem dX6_worstHarbour_9 : decode cX6_worstHarbour 9 = .ok (.iload 4, 2) := by decide +kernel
theorem dX6_worstHarbour_11 : decode cX6_worstHarbour 11 = .ok (.bipush 8, 2) := by decide +kernel
theorem dX6_worstHarbour_13 : decode cX6_worstHarbour 13 = .ok (.if_icmp .ge 62, 3) := by decide +kernel
theorem dX6_worstHarbour_16 : decode cX6_worstHarbour 16 = .ok (.aload_n 0, 1) := by decide +kernel
theorem dX6_worstHarbour_17 : decode cX6_worstHarbour 17 = .ok (.iload 4, 2) := by decide +kernel
theorem dX6_worstHarbour_19 : decode cX6_worstHarbour 19 = .ok (.iconst (-1), 1) := by decide +kernel
theorem dX6_worstHarbour_20 : decode cX6_worstHarbour 20 = .ok (.iconst (-1), 1) := by decide +kernel
theorem dX6_worstHarbour_21 : decode cX6_worstHarbour 21 = .ok (.iconst 0, 1) := by decide +kernel
theorem dX6_worstHarbour_22 : decode cX6_worstHarbour 22 = .ok (.invokevirtual 29, 3) := by decide +kernel
theorem dX6_worstHarbour_25 : decode cX6_worstHarbour 25 = .ok (.istore 5, 2) := by decide +kernel
theorem dX6_worstHarbour_27 : decode cX6_worstHarbour 27 = .ok (.aload_n 0, 1) := by decide +kernel
theorem dX6_worstHarbour_28 : decode cX6_worstHarbour 28 = .ok (.iload 4, 2) := by decide +kernel
theorem dX6_worstHarbour_30 : decode cX6_worstHarbour 30 = .ok (.iconst (-1), 1) := by decide +kernel
theorem dX6_worstHarbour_31 : decode cX6_worstHarbour 31 = .ok (.iconst (-1), 1) := by decide +kernel
theorem dX6_worstHarbour_32 : decode cX6_worstHarbour 32 = .ok (.iconst 1, 1) := by decide +kernel
theorem dX6_worstHarbour_33 : decode cX6_worstHarbour 33 = .ok (.invokevirtual 29, 3) := by decide +kernel
theorem dX6_worstHarbour_36 : decode cX6_worstHarbour 36 = .ok (.iconst 1, 1) := by decide +kernel
theorem dX6_worstHarbour_37 : decode cX6_worstHarbour 37 = .ok (.iadd, 1) := by decide +kernel
theorem dX6_worstHarbour_38 : decode cX6_worstHarbour 38 = .ok (.istore 6, 2) := by decide +kernel
theorem dX6_worstHarbour_40 : decode cX6_worstHarbour 40 = .ok (.iload 5, 2) := by decide +kernel
theorem dX6_worstHarbour_42 : decode cX6_worstHarbour 42 = .ok (.ifCond .le 27, 3) := by decide +kernel
theorem dX6_worstHarbour_45 : decode cX6_worstHarbour 45 = .ok (.iload 6, 2) := by decide +kernel
theorem dX6_worstHarbour_47 : decode cX6_worstHarbour 47 = .ok (.iload_n 3, 1) := by decide +kernel
theorem dX6_worstHarbour_48 : decode cX6_worstHarbour 48 = .ok (.imul, 1) := by decide +kernel
theorem dX6_worstHarbour_49 : decode cX6_worstHarbour 49 = .ok (.iload_n 2, 1) := by decide +kernel
theorem dX6_worstHarbour_50 : decode cX6_worstHarbour 50 = .ok (.iload 5, 2) := by decide +kernel
theorem dX6_worstHarbour_52 : decode cX6_worstHarbour 52 = .ok (.iconst 2, 1) := by decide +kernel
theorem dX6_worstHarbour_53 : decode cX6_worstHarbour 53 = .ok (.iadd, 1) := by decide +kernel
theorem dX6_worstHarbour_54 : decode cX6_worstHarbour 54 = .ok (.imul, 1) := by decide +kernel
theorem dX6_worstHarbour_55 : decode cX6_worstHarbour 55 = .ok (.if_icmp .le 14, 3) := by decide +kernel
theorem dX6_worstHarbour_58 : decode cX6_worstHarbour 58 = .ok (.iload 4, 2) := by decide +kernel
theorem dX6_worstHarbour_60 : decode cX6_worstHarbour 60 = .ok (.istore_n 1, 1) := by decide +kernel
theorem dX6_worstHarbour_61 : decode cX6_worstHarbour 61 = .ok (.iload 6, 2) := by decide +kernel
theorem dX6_worstHarbour_63 : decode cX6_worstHarbour 63 = .ok (.istore_n 2, 1) := by decide +kernel
theorem dX6_worstHarbour_64 : decode cX6_worstHarbour 64 = .ok (.iload 5, 2) := by decide +kernel
theorem dX6_worstHarbour_66 : decode cX6_worstHarbour 66 = .ok (.iconst 2, 1) := by decide +kernel
theorem dX6_worstHarbour_67 : decode cX6_worstHarbour 67 = .ok (.iadd, 1) := by decide +kernel
theorem dX6_worstHarbour_68 : decode cX6_worstHarbour 68 = .ok (.istore_n 3, 1) := by decide +kernel
theorem dX6_worstHarbour_69 : decode cX6_worstHarbour 69 = .ok (.iinc 4 1, 3) := by decide +kernel
theorem dX6_worstHarbour_72 : decode cX6_worstHarbour 72 = .ok (.goto (-63), 3) := by decide +kernel
theorem dX6_worstHarbour_75 : decode cX6_worstHarbour 75 = .ok (.iload_n 1, 1) := by decide +kernel
theorem dX6_worstHarbour_76 : decode cX6_worstHarbour 76 = .ok (.ireturn, 1) := by decide +kernel
theorem dX7_tell_0 : decode cX7_tell 0 = .ok (.iload_n 1, 1) := by decide +kernel
theorem dX7_tell_1 : decode cX7_tell 1 = .ok (.bipush 30, 2) := by decide +kernel
theorem dX7_tell_3 : decode cX7_tell 3 = .ok (.invokestatic 18, 3) := by decide +kernel
theorem dX7_tell_6 : decode cX7_tell 6 = .ok (.ifCond .eq 21, 3) := by decide +kernel
theorem dX7_tell_9 : decode cX7_tell 9 = .ok (.iload_n 2, 1) := by decide +kernel
theorem dX7_tell_10 : decode cX7_tell 10 = .ok (.bipush 10, 2) := by decide +kernel
theorem dX7_tell_12 : decode cX7_tell 12 = .ok (.invokestatic 18, 3) := by decide +kernel
theorem dX7_tell_15 : decode cX7_tell 15 = .ok (.ifCond .eq 12, 3) := by decide +kernel
theorem dX7_tell_18 : decode cX7_tell 18 = .ok (.iload_n 3, 1) := by decide +kernel
theorem dX7_tell_19 : decode cX7_tell 19 = .ok (.bipush 10, 2) := by decide +kernel
theorem dX7_tell_21 : decode cX7_tell 21 = .ok (.invokestatic 18, 3) := by decide +kernel
theorem dX7_tell_24 : decode cX7_tell 24 = .ok (.ifCond .ne 5, 3) := by decide +kernel
theorem dX7_tell_27 : decode cX7_tell 27 = .ok (.iconst 0, 1) := by decide +kernel
theorem dX7_tell_28 : decode cX7_tell 28 = .ok (.ireturn, 1) := by decide +kernel
theorem dX7_tell_29 : decode cX7_tell 29 = .ok (.aload_n 0, 1) := by decide +kernel
theorem dX7_tell_30 : decode cX7_tell 30 = .ok (.getfield 11, 3) := by decide +kernel
theorem dX7_tell_33 : decode cX7_tell 33 = .ok (.iload_n 1, 1) := by decide +kernel
theorem dX7_tell_34 : decode cX7_tell 34 = .ok (.iload_n 2, 1) := by decide +kernel
theorem dX7_tell_35 : decode cX7_tell 35 = .ok (.iastore, 1) := by decide +kernel
theorem dX7_tell_36 : decode cX7_tell 36 = .ok (.aload_n 0, 1) := by decide +kernel
theorem dX7_tell_37 : decode cX7_tell 37 = .ok (.getfield 15, 3) := by decide +kernel
theorem dX7_tell_40 : decode cX7_tell 40 = .ok (.iload_n 1, 1) := by decide +kernel
theorem dX7_tell_41 : decode cX7_tell 41 = .ok (.iload_n 3, 1) := by decide +kernel
theorem dX7_tell_42 : decode cX7_tell 42 = .ok (.iastore, 1) := by decide +kernel
theorem dX7_tell_43 : decode cX7_tell 43 = .ok (.iconst 1, 1) := by decide +kernel
theorem dX7_tell_44 : decode cX7_tell 44 = .ok (.ireturn, 1) := by decide +kernel
theorem dX7_rainAt_0 : decode cX7_rainAt 0 = .ok (.iload_n 1, 1) := by decide +kernel
theorem dX7_rainAt_1 : decode cX7_rainAt 1 = .ok (.sipush 720, 3) := by decide +kernel
theorem dX7_rainAt_4 : decode cX7_rainAt 4 = .ok (.invokestatic 18, 3) := by decide +kernel
theorem dX7_rainAt_7 : decode cX7_rainAt 7 = .ok (.ifCond .eq 15, 3) := by decide +kernel
theorem dX7_rainAt_10 : decode cX7_rainAt 10 = .ok (.aload_n 0, 1) := by decide +kernel
theorem dX7_rainAt_11 : decode cX7_rainAt 11 = .ok (.getfield 11, 3) := by decide +kernel
theorem dX7_rainAt_14 : decode cX7_rainAt 14 = .ok (.iload_n 1, 1) := by decide +kernel
theorem dX7_rainAt_15 : decode cX7_rainAt 15 = .ok (.bipush 24, 2) := by decide +kernel
theorem dX7_rainAt_17 : decode cX7_rainAt 17 = .ok (.idiv, 1) := by decide +kernel
theorem dX7_rainAt_18 : decode cX7_rainAt 18 = .ok (.iaload, 1) := by decide +kernel
theorem dX7_rainAt_19 : decode cX7_rainAt 19 = .ok (.goto 4, 3) := by decide +kernel
theorem dX7_rainAt_22 : decode cX7_rainAt 22 = .ok (.iconst 0, 1) := by decide +kernel
theorem dX7_rainAt_23 : decode cX7_rainAt 23 = .ok (.ireturn, 1) := by decide +kernel
theorem dX7_swellAt_0 : decode cX7_swellAt 0 = .ok (.iload_n 1, 1) := by decide +kernel
theorem dX7_swellAt_1 : decode cX7_swellAt 1 = .ok (.sipush 720, 3) := by decide +kernel
theorem dX7_swellAt_4 : decode cX7_swellAt 4 = .ok (.invokestatic 18, 3) := by decide +kernel
theorem dX7_swellAt_7 : decode cX7_swellAt 7 = .ok (.ifCond .eq 15, 3) := by decide +kernel
theorem dX7_swellAt_10 : decode cX7_swellAt 10 = .ok (.aload_n 0, 1) := by decide +kernel
theorem dX7_swellAt_11 : decode cX7_swellAt 11 = .ok (.getfield 15, 3) := by decide +kernel
theorem dX7_swellAt_14 : decode cX7_swellAt 14 = .ok (.iload_n 1, 1) := by decide +kernel
theorem dX7_swellAt_15 : decode cX7_swellAt 15 = .ok (.bipush 24, 2) := by decide +kernel
theorem dX7_swellAt_17 : decode cX7_swellAt 17 = .ok (.idiv, 1) := by decide +kernel
theorem dX7_swellAt_18 : decode cX7_swellAt 18 = .ok (.iaload, 1) := by decide +kernel
theorem dX7_swellAt_19 : decode cX7_swellAt 19 = .ok (.goto 4, 3) := by decide +kernel
theorem dX7_swellAt_22 : decode cX7_swellAt 22 = .ok (.iconst 0, 1) := by decide +kernel
theorem dX7_swellAt_23 : decode cX7_swellAt 23 = .ok (.ireturn, 1) := by decide +kernel
theorem dX8_height_0 : decode cX8_height 0 = .ok (.iload_n 1, 1) := by decide +kernel
theorem dX8_height_1 : decode cX8_height 1 = .ok (.aload_n 0, 1) := by decide +kernel
theorem dX8_height_2 : decode cX8_height 2 = .ok (.getfield 9, 3) := by decide +kernel
theorem dX8_height_5 : decode cX8_height 5 = .ok (.invokestatic 53, 3) := by decide +kernel
theorem dX8_height_8 : decode cX8_height 8 = .ok (.ifCond .ne 5, 3) := by decide +kernel
theorem dX8_height_11 : decode cX8_height 11 = .ok (.iconst 0, 1) := by decide +kernel
theorem dX8_height_12 : decode cX8_height 12 = .ok (.ireturn, 1) := by decide +kernel
theorem dX8_height_13 : decode cX8_height 13 = .ok (.aload_n 0, 1) := by decide +kernel
theorem dX8_height_14 : decode cX8_height 14 = .ok (.getfield 15, 3) := by decide +kernel
theorem dX8_height_17 : decode cX8_height 17 = .ok (.iconst 1, 1) := by decide +kernel
theorem dX8_height_18 : decode cX8_height 18 = .ok (.isub, 1) := by decide +kernel
theorem dX8_height_19 : decode cX8_height 19 = .ok (.istore_n 2, 1) := by decide +kernel
theorem dX8_height_20 : decode cX8_height 20 = .ok (.iload_n 2, 1) := by decide +kernel
theorem dX8_height_21 : decode cX8_height 21 = .ok (.ifCond .lt 29, 3) := by decide +kernel
theorem dX8_height_24 : decode cX8_height 24 = .ok (.aload_n 0, 1) := by decide +kernel
theorem dX8_height_25 : decode cX8_height 25 = .ok (.getfield 28, 3) := by decide +kernel
theorem dX8_height_28 : decode cX8_height 28 = .ok (.iload_n 1, 1) := by decide +kernel
theorem dX8_height_29 : decode cX8_height 29 = .ok (.aload_n 0, 1) := by decide +kernel
theorem dX8_height_30 : decode cX8_height 30 = .ok (.getfield 15, 3) := by decide +kernel
theorem dX8_height_33 : decode cX8_height 33 = .ok (.imul, 1) := by decide +kernel
theorem dX8_height_34 : decode cX8_height 34 = .ok (.iload_n 2, 1) := by decide +kernel
theorem dX8_height_35 : decode cX8_height 35 = .ok (.iadd, 1) := by decide +kernel
theorem dX8_height_36 : decode cX8_height 36 = .ok (.iaload, 1) := by decide +kernel
theorem dX8_height_37 : decode cX8_height 37 = .ok (.ifCond .le 7, 3) := by decide +kernel
theorem dX8_height_40 : decode cX8_height 40 = .ok (.iload_n 2, 1) := by decide +kernel
theorem dX8_height_41 : decode cX8_height 41 = .ok (.iconst 1, 1) := by decide +kernel
theorem dX8_height_42 : decode cX8_height 42 = .ok (.iadd, 1) := by decide +kernel
theorem dX8_height_43 : decode cX8_height 43 = .ok (.ireturn, 1) := by decide +kernel
theorem dX8_height_44 : decode cX8_height 44 = .ok (.iinc 2 (-1), 3) := by decide +kernel
theorem dX8_height_47 : decode cX8_height 47 = .ok (.goto (-27), 3) := by decide +kernel
theorem dX8_height_50 : decode cX8_height 50 = .ok (.iconst 0, 1) := by decide +kernel
theorem dX8_height_51 : decode cX8_height 51 = .ok (.ireturn, 1) := by decide +kernel
theorem dX8_isLit_0 : decode cX8_isLit 0 = .ok (.iload_n 2, 1) := by decide +kernel
theorem dX8_isLit_1 : decode cX8_isLit 1 = .ok (.bipush 8, 2) := by decide +kernel
theorem dX8_isLit_3 : decode cX8_isLit 3 = .ok (.idiv, 1) := by decide +kernel
theorem dX8_isLit_4 : decode cX8_isLit 4 = .ok (.iconst 4, 1) := by decide +kernel
theorem dX8_isLit_5 : decode cX8_isLit 5 = .ok (.if_icmp .ge 8, 3) := by decide +kernel
theorem dX8_isLit_8 : decode cX8_isLit 8 = .ok (.bipush 6, 2) := by decide +kernel
theorem dX8_isLit_10 : decode cX8_isLit 10 = .ok (.goto 5, 3) := by decide +kernel
theorem dX8_isLit_13 : decode cX8_isLit 13 = .ok (.bipush 12, 2) := by decide +kernel
theorem dX8_isLit_15 : decode cX8_isLit 15 = .ok (.istore 4, 2) := by decide +kernel
theorem dX8_isLit_17 : decode cX8_isLit 17 = .ok (.aload_n 1, 1) := by decide +kernel
theorem dX8_isLit_18 : decode cX8_isLit 18 = .ok (.invokevirtual 75, 3) := by decide +kernel
theorem dX8_isLit_21 : decode cX8_isLit 21 = .ok (.iload 4, 2) := by decide +kernel
theorem dX8_isLit_23 : decode cX8_isLit 23 = .ok (.isub, 1) := by decide +kernel
theorem dX8_isLit_24 : decode cX8_isLit 24 = .ok (.bipush 6, 2) := by decide +kernel
theorem dX8_isLit_26 : decode cX8_isLit 26 = .ok (.invokestatic 53, 3) := by decide +kernel
theorem dX8_isLit_29 : decode cX8_isLit 29 = .ok (.ifCond .eq 18, 3) := by decide +kernel
theorem dX8_isLit_32 : decode cX8_isLit 32 = .ok (.iload_n 3, 1) := by decide +kernel
theorem dX8_isLit_33 : decode cX8_isLit 33 = .ok (.iconst 1, 1) := by decide +kernel
theorem dX8_isLit_34 : decode cX8_isLit 34 = .ok (.iadd, 1) := by decide +kernel
theorem dX8_isLit_35 : decode cX8_isLit 35 = .ok (.aload_n 0, 1) := by decide +kernel
theorem dX8_isLit_36 : decode cX8_isLit 36 = .ok (.iload_n 2, 1) := by decide +kernel
theorem dX8_isLit_37 : decode cX8_isLit 37 = .ok (.invokevirtual 79, 3) := by decide +kernel
theorem dX8_isLit_40 : decode cX8_isLit 40 = .ok (.if_icmp .ne 7, 3) := by decide +kernel
theorem dX8_isLit_43 : decode cX8_isLit 43 = .ok (.iconst 1, 1) := by decide +kernel
theorem dX8_isLit_44 : decode cX8_isLit 44 = .ok (.goto 4, 3) := by decide +kernel
theorem dX8_isLit_47 : decode cX8_isLit 47 = .ok (.iconst 0, 1) := by decide +kernel
theorem dX8_isLit_48 : decode cX8_isLit 48 = .ok (.ireturn, 1) := by decide +kernel
theorem dX8_topIsSoup_0 : decode cX8_topIsSoup 0 = .ok (.aload_n 0, 1) := by decide +kernel
theorem dX8_topIsSoup_1 : decode cX8_topIsSoup 1 = .ok (.iload_n 1, 1) := by decide +kernel
theorem dX8_topIsSoup_2 : decode cX8_topIsSoup 2 = .ok (.invokevirtual 79, 3) := by decide +kernel
theorem dX8_topIsSoup_5 : decode cX8_topIsSoup 5 = .ok (.istore_n 2, 1) := by decide +kernel
theorem dX8_topIsSoup_6 : decode cX8_topIsSoup 6 = .ok (.iload_n 2, 1) := by decide +kernel
theorem dX8_topIsSoup_7 : decode cX8_topIsSoup 7 = .ok (.ifCond .le 26, 3) := by decide +kernel
theorem dX8_topIsSoup_10 : decode cX8_topIsSoup 10 = .ok (.aload_n 0, 1) := by decide +kernel
theorem dX8_topIsSoup_11 : decode cX8_topIsSoup 11 = .ok (.getfield 38, 3) := by decide +kernel
theorem dX8_topIsSoup_14 : decode cX8_topIsSoup 14 = .ok (.iload_n 1, 1) := by decide +kernel
theorem dX8_topIsSoup_15 : decode cX8_topIsSoup 15 = .ok (.aload_n 0, 1) := by decide +kernel
theorem dX8_topIsSoup_16 : decode cX8_topIsSoup 16 = .ok (.getfield 15, 3) := by decide +kernel
theorem dX8_topIsSoup_19 : decode cX8_topIsSoup 19 = .ok (.imul, 1) := by decide +kernel
theorem dX8_topIsSoup_20 : decode cX8_topIsSoup 20 = .ok (.iload_n 2, 1) := by decide +kernel
theorem dX8_topIsSoup_21 : decode cX8_topIsSoup 21 = .ok (.iadd, 1) := by decide +kernel
theorem dX8_topIsSoup_22 : decode cX8_topIsSoup 22 = .ok (.iconst 1, 1) := by decide +kernel
theorem dX8_topIsSoup_23 : decode cX8_topIsSoup 23 = .ok (.isub, 1) := by decide +kernel
theorem dX8_topIsSoup_24 : decode cX8_topIsSoup 24 = .ok (.iaload, 1) := by decide +kernel
theorem dX8_topIsSoup_25 : decode cX8_topIsSoup 25 = .ok (.iconst 1, 1) := by decide +kernel
theorem dX8_topIsSoup_26 : decode cX8_topIsSoup 26 = .ok (.if_icmp .ne 7, 3) := by decide +kernel
theorem dX8_topIsSoup_29 : decode cX8_topIsSoup 29 = .ok (.iconst 1, 1) := by decide +kernel
theorem dX8_topIsSoup_30 : decode cX8_topIsSoup 30 = .ok (.goto 4, 3) := by decide +kernel
theorem dX8_topIsSoup_33 : decode cX8_topIsSoup 33 = .ok (.iconst 0, 1) := by decide +kernel
theorem dX8_topIsSoup_34 : decode cX8_topIsSoup 34 = .ok (.ireturn, 1) := by decide +kernel
theorem dX8_moveTop_0 : decode cX8_moveTop 0 = .ok (.aload_n 0, 1) := by decide +kernel
theorem dX8_moveTop_1 : decode cX8_moveTop 1 = .ok (.iload_n 1, 1) := by decide +kernel
theorem dX8_moveTop_2 : decode cX8_moveTop 2 = .ok (.invokevirtual 79, 3) := by decide +kernel
theorem dX8_moveTop_5 : decode cX8_moveTop 5 = .ok (.istore 4, 2) := by decide +kernel
theorem dX8_moveTop_7 : decode cX8_moveTop 7 = .ok (.aload_n 2, 1) := by decide +kernel
theorem dX8_moveTop_8 : decode cX8_moveTop 8 = .ok (.iload_n 3, 1) := by decide +kernel
theorem dX8_moveTop_9 : decode cX8_moveTop 9 = .ok (.invokevirtual 79, 3) := by decide +kernel
theorem dX8_moveTop_12 : decode cX8_moveTop 12 = .ok (.istore 5, 2) := by decide +kernel
theorem dX8_moveTop_14 : decode cX8_moveTop 14 = .ok (.iload 4, 2) := by decide +kernel
theorem dX8_moveTop_16 : decode cX8_moveTop 16 = .ok (.ifCond .eq 23, 3) := by decide +kernel
theorem dX8_moveTop_19 : decode cX8_moveTop 19 = .ok (.iload_n 3, 1) := by decide +kernel
theorem dX8_moveTop_20 : decode cX8_moveTop 20 = .ok (.aload_n 2, 1) := by decide +kernel
theorem dX8_moveTop_21 : decode cX8_moveTop 21 = .ok (.getfield 9, 3) := by decide +kernel
theorem dX8_moveTop_24 : decode cX8_moveTop 24 = .ok (.invokestatic 53, 3) := by decide +kernel
theorem dX8_moveTop_27 : decode cX8_moveTop 27 = .ok (.ifCond .eq 12, 3) := by decide +kernel
theorem dX8_moveTop_30 : decode cX8_moveTop 30 = .ok (.iload 5, 2) := by decide +kernel
theorem dX8_moveTop_32 : decode cX8_moveTop 32 = .ok (.aload_n 2, 1) := by decide +kernel
theorem dX8_moveTop_33 : decode cX8_moveTop 33 = .ok (.getfield 15, 3) := by decide +kernel
theorem dX8_moveTop_36 : decode cX8_moveTop 36 = .ok (.if_icmp .lt 5, 3) := by decide +kernel
theorem dX8_moveTop_39 : decode cX8_moveTop 39 = .ok (.iconst 0, 1) := by decide +kernel
theorem dX8_moveTop_40 : decode cX8_moveTop 40 = .ok (.ireturn, 1) := by decide +kernel
theorem dX8_moveTop_41 : decode cX8_moveTop 41 = .ok (.iload_n 1, 1) := by decide +kernel
theorem dX8_moveTop_42 : decode cX8_moveTop 42 = .ok (.aload_n 0, 1) := by decide +kernel
theorem dX8_moveTop_43 : decode cX8_moveTop 43 = .ok (.getfield 15, 3) := by decide +kernel
theorem dX8_moveTop_46 : decode cX8_moveTop 46 = .ok (.imul, 1) := by decide +kernel
theorem dX8_moveTop_47 : decode cX8_moveTop 47 = .ok (.iload 4, 2) := by decide +kernel
theorem dX8_moveTop_49 : decode cX8_moveTop 49 = .ok (.iadd, 1) := by decide +kernel
theorem dX8_moveTop_50 : decode cX8_moveTop 50 = .ok (.iconst 1, 1) := by decide +kernel
theorem dX8_moveTop_51 : decode cX8_moveTop 51 = .ok (.isub, 1) := by decide +kernel
theorem dX8_moveTop_52 : decode cX8_moveTop 52 = .ok (.istore 6, 2) := by decide +kernel
theorem dX8_moveTop_54 : decode cX8_moveTop 54 = .ok (.iload_n 3, 1) := by decide +kernel
theorem dX8_moveTop_55 : decode cX8_moveTop 55 = .ok (.aload_n 2, 1) := by decide +kernel
theorem dX8_moveTop_56 : decode cX8_moveTop 56 = .ok (.getfield 15, 3) := by decide +kernel
theorem dX8_moveTop_59 : decode cX8_moveTop 59 = .ok (.imul, 1) := by decide +kernel
theorem dX8_moveTop_60 : decode cX8_moveTop 60 = .ok (.iload 5, 2) := by decide +kernel
theorem dX8_moveTop_62 : decode cX8_moveTop 62 = .ok (.iadd, 1) := by decide +kernel
theorem dX8_moveTop_63 : decode cX8_moveTop 63 = .ok (.istore 7, 2) := by decide +kernel
theorem dX8_moveTop_65 : decode cX8_moveTop 65 = .ok (.aload_n 2, 1) := by decide +kernel
theorem dX8_moveTop_66 : decode cX8_moveTop 66 = .ok (.getfield 28, 3) := by decide +kernel
theorem dX8_moveTop_69 : decode cX8_moveTop 69 = .ok (.iload 7, 2) := by decide +kernel
theorem dX8_moveTop_71 : decode cX8_moveTop 71 = .ok (.aload_n 0, 1) := by decide +kernel
theorem dX8_moveTop_72 : decode cX8_moveTop 72 = .ok (.getfield 28, 3) := by decide +kernel
theorem dX8_moveTop_75 : decode cX8_moveTop 75 = .ok (.iload 6, 2) := by decide +kernel
theorem dX8_moveTop_77 : decode cX8_moveTop 77 = .ok (.iaload, 1) := by decide +kernel
theorem dX8_moveTop_78 : decode cX8_moveTop 78 = .ok (.iastore, 1) := by decide +kernel
theorem dX8_moveTop_79 : decode cX8_moveTop 79 = .ok (.aload_n 2, 1) := by decide +kernel
theorem dX8_moveTop_80 : decode cX8_moveTop 80 = .ok (.getfield 32, 3) := by decide +kernel
theorem dX8_moveTop_83 : decode cX8_moveTop 83 = .ok (.iload 7, 2) := by decide +kernel
theorem dX8_moveTop_85 : decode cX8_moveTop 85 = .ok (.aload_n 0, 1) := by decide +kernel
theorem dX8_moveTop_86 : decode cX8_moveTop 86 = .ok (.getfield 32, 3) := by decide +kernel
theorem dX8_moveTop_89 : decode cX8_moveTop 89 = .ok (.iload 6, 2) := by decide +kernel
theorem dX8_moveTop_91 : decode cX8_moveTop 91 = .ok (.iaload, 1) := by decide +kernel
theorem dX8_moveTop_92 : decode cX8_moveTop 92 = .ok (.iastore, 1) := by decide +kernel
theorem dX8_moveTop_93 : decode cX8_moveTop 93 = .ok (.aload_n 2, 1) := by decide +kernel
theorem dX8_moveTop_94 : decode cX8_moveTop 94 = .ok (.getfield 35, 3) := by decide +kernel
theorem dX8_moveTop_97 : decode cX8_moveTop 97 = .ok (.iload 7, 2) := by decide +kernel
theorem dX8_moveTop_99 : decode cX8_moveTop 99 = .ok (.aload_n 0, 1) := by decide +kernel
theorem dX8_moveTop_100 : decode cX8_moveTop 100 = .ok (.getfield 35, 3) := by decide +kernel
theorem dX8_moveTop_103 : decode cX8_moveTop 103 = .ok (.iload 6, 2) := by decide +kernel
theorem dX8_moveTop_105 : decode cX8_moveTop 105 = .ok (.iaload, 1) := by decide +kernel
theorem dX8_moveTop_106 : decode cX8_moveTop 106 = .ok (.iastore, 1) := by decide +kernel
theorem dX8_moveTop_107 : decode cX8_moveTop 107 = .ok (.aload_n 2, 1) := by decide +kernel
theorem dX8_moveTop_108 : decode cX8_moveTop 108 = .ok (.getfield 38, 3) := by decide +kernel
theorem dX8_moveTop_111 : decode cX8_moveTop 111 = .ok (.iload 7, 2) := by decide +kernel
theorem dX8_moveTop_113 : decode cX8_moveTop 113 = .ok (.aload_n 0, 1) := by decide +kernel
theorem dX8_moveTop_114 : decode cX8_moveTop 114 = .ok (.getfield 38, 3) := by decide +kernel
theorem dX8_moveTop_117 : decode cX8_moveTop 117 = .ok (.iload 6, 2) := by decide +kernel
theorem dX8_moveTop_119 : decode cX8_moveTop 119 = .ok (.iaload, 1) := by decide +kernel
theorem dX8_moveTop_120 : decode cX8_moveTop 120 = .ok (.iastore, 1) := by decide +kernel
theorem dX8_moveTop_121 : decode cX8_moveTop 121 = .ok (.aload_n 0, 1) := by decide +kernel
theorem dX8_moveTop_122 : decode cX8_moveTop 122 = .ok (.getfield 28, 3) := by decide +kernel
theorem dX8_moveTop_125 : decode cX8_moveTop 125 = .ok (.iload 6, 2) := by decide +kernel
theorem dX8_moveTop_127 : decode cX8_moveTop 127 = .ok (.iconst 0, 1) := by decide +kernel
theorem dX8_moveTop_128 : decode cX8_moveTop 128 = .ok (.iastore, 1) := by decide +kernel
theorem dX8_moveTop_129 : decode cX8_moveTop 129 = .ok (.aload_n 0, 1) := by decide +kernel
theorem dX8_moveTop_130 : decode cX8_moveTop 130 = .ok (.getfield 32, 3) := by decide +kernel
theorem dX8_moveTop_133 : decode cX8_moveTop 133 = .ok (.iload 6, 2) := by decide +kernel
theorem dX8_moveTop_135 : decode cX8_moveTop 135 = .ok (.iconst 0, 1) := by decide +kernel
theorem dX8_moveTop_136 : decode cX8_moveTop 136 = .ok (.iastore, 1) := by decide +kernel
theorem dX8_moveTop_137 : decode cX8_moveTop 137 = .ok (.aload_n 0, 1) := by decide +kernel
theorem dX8_moveTop_138 : decode cX8_moveTop 138 = .ok (.getfield 35, 3) := by decide +kernel
theorem dX8_moveTop_141 : decode cX8_moveTop 141 = .ok (.iload 6, 2) := by decide +kernel
theorem dX8_moveTop_143 : decode cX8_moveTop 143 = .ok (.iconst 0, 1) := by decide +kernel
theorem dX8_moveTop_144 : decode cX8_moveTop 144 = .ok (.iastore, 1) := by decide +kernel
theorem dX8_moveTop_145 : decode cX8_moveTop 145 = .ok (.aload_n 0, 1) := by decide +kernel
theorem dX8_moveTop_146 : decode cX8_moveTop 146 = .ok (.getfield 38, 3) := by decide +kernel
theorem dX8_moveTop_149 : decode cX8_moveTop 149 = .ok (.iload 6, 2) := by decide +kernel
theorem dX8_moveTop_151 : decode cX8_moveTop 151 = .ok (.iconst 0, 1) := by decide +kernel
theorem dX8_moveTop_152 : decode cX8_moveTop 152 = .ok (.iastore, 1) := by decide +kernel
theorem dX8_moveTop_153 : decode cX8_moveTop 153 = .ok (.iconst 1, 1) := by decide +kernel
theorem dX8_moveTop_154 : decode cX8_moveTop 154 = .ok (.ireturn, 1) := by decide +kernel
theorem dX9_isOf_0 : decode cX9_isOf 0 = .ok (.iload_n 1, 1) := by decide +kernel
theorem dX9_isOf_1 : decode cX9_isOf 1 = .ok (.aload_n 0, 1) := by decide +kernel
theorem dX9_isOf_2 : decode cX9_isOf 2 = .ok (.getfield 30, 3) := by decide +kernel
theorem dX9_isOf_5 : decode cX9_isOf 5 = .ok (.invokestatic 37, 3) := by decide +kernel
theorem dX9_isOf_8 : decode cX9_isOf 8 = .ok (.ifCond .eq 17, 3) := by decide +kernel
theorem dX9_isOf_11 : decode cX9_isOf 11 = .ok (.aload_n 0, 1) := by decide +kernel
theorem dX9_isOf_12 : decode cX9_isOf 12 = .ok (.getfield 15, 3) := by decide +kernel
theorem dX9_isOf_15 : decode cX9_isOf 15 = .ok (.iload_n 1, 1) := by decide +kernel
theorem dX9_isOf_16 : decode cX9_isOf 16 = .ok (.iaload, 1) := by decide +kernel
theorem dX9_isOf_17 : decode cX9_isOf 17 = .ok (.iload_n 2, 1) := by decide +kernel
theorem dX9_isOf_18 : decode cX9_isOf 18 = .ok (.if_icmp .ne 7, 3) := by decide +kernel
theorem dX9_isOf_21 : decode cX9_isOf 21 = .ok (.iconst 1, 1) := by decide +kernel
theorem dX9_isOf_22 : decode cX9_isOf 22 = .ok (.goto 4, 3) := by decide +kernel
theorem dX9_isOf_25 : decode cX9_isOf 25 = .ok (.iconst 0, 1) := by decide +kernel
theorem dX9_isOf_26 : decode cX9_isOf 26 = .ok (.ireturn, 1) := by decide +kernel
theorem dX9_isFor_0 : decode cX9_isFor 0 = .ok (.iload_n 1, 1) := by decide +kernel
theorem dX9_isFor_1 : decode cX9_isFor 1 = .ok (.aload_n 0, 1) := by decide +kernel
theorem dX9_isFor_2 : decode cX9_isFor 2 = .ok (.getfield 30, 3) := by decide +kernel
theorem dX9_isFor_5 : decode cX9_isFor 5 = .ok (.invokestatic 37, 3) := by decide +kernel
theorem dX9_isFor_8 : decode cX9_isFor 8 = .ok (.ifCond .eq 22, 3) := by decide +kernel
theorem dX9_isFor_11 : decode cX9_isFor 11 = .ok (.iload_n 2, 1) := by decide +kernel
theorem dX9_isFor_12 : decode cX9_isFor 12 = .ok (.iconst (-1), 1) := by decide +kernel
theorem dX9_isFor_13 : decode cX9_isFor 13 = .ok (.if_icmp .eq 13, 3) := by decide +kernel
theorem dX9_isFor_16 : decode cX9_isFor 16 = .ok (.aload_n 0, 1) := by decide +kernel
theorem dX9_isFor_17 : decode cX9_isFor 17 = .ok (.getfield 18, 3) := by decide +kernel
theorem dX9_isFor_20 : decode cX9_isFor 20 = .ok (.iload_n 1, 1) := by decide +kernel
theorem dX9_isFor_21 : decode cX9_isFor 21 = .ok (.iaload, 1) := by decide +kernel
theorem dX9_isFor_22 : decode cX9_isFor 22 = .ok (.iload_n 2, 1) := by decide +kernel
theorem dX9_isFor_23 : decode cX9_isFor 23 = .ok (.if_icmp .ne 7, 3) := by decide +kernel
theorem dX9_isFor_26 : decode cX9_isFor 26 = .ok (.iconst 1, 1) := by decide +kernel
theorem dX9_isFor_27 : decode cX9_isFor 27 = .ok (.goto 4, 3) := by decide +kernel
theorem dX9_isFor_30 : decode cX9_isFor 30 = .ok (.iconst 0, 1) := by decide +kernel
theorem dX9_isFor_31 : decode cX9_isFor 31 = .ok (.ireturn, 1) := by decide +kernel
theorem dX9_isSo_0 : decode cX9_isSo 0 = .ok (.iload_n 1, 1) := by decide +kernel
theorem dX9_isSo_1 : decode cX9_isSo 1 = .ok (.aload_n 0, 1) := by decide +kernel
theorem dX9_isSo_2 : decode cX9_isSo 2 = .ok (.getfield 30, 3) := by decide +kernel
theorem dX9_isSo_5 : decode cX9_isSo 5 = .ok (.invokestatic 37, 3) := by decide +kernel
theorem dX9_isSo_8 : decode cX9_isSo 8 = .ok (.ifCond .eq 42, 3) := by decide +kernel
theorem dX9_isSo_11 : decode cX9_isSo 11 = .ok (.aload_n 0, 1) := by decide +kernel
theorem dX9_isSo_12 : decode cX9_isSo 12 = .ok (.getfield 21, 3) := by decide +kernel
theorem dX9_isSo_15 : decode cX9_isSo 15 = .ok (.iload_n 1, 1) := by decide +kernel
theorem dX9_isSo_16 : decode cX9_isSo 16 = .ok (.iaload, 1) := by decide +kernel
theorem dX9_isSo_17 : decode cX9_isSo 17 = .ok (.aload_n 0, 1) := by decide +kernel
theorem dX9_isSo_18 : decode cX9_isSo 18 = .ok (.getfield 24, 3) := by decide +kernel
theorem dX9_isSo_21 : decode cX9_isSo 21 = .ok (.iload_n 1, 1) := by decide +kernel
theorem dX9_isSo_22 : decode cX9_isSo 22 = .ok (.iaload, 1) := by decide +kernel
theorem dX9_isSo_23 : decode cX9_isSo 23 = .ok (.if_icmp .eq 23, 3) := by decide +kernel
theorem dX9_isSo_26 : decode cX9_isSo 26 = .ok (.aload_n 0, 1) := by decide +kernel
theorem dX9_isSo_27 : decode cX9_isSo 27 = .ok (.aload_n 0, 1) := by decide +kernel
theorem dX9_isSo_28 : decode cX9_isSo 28 = .ok (.getfield 21, 3) := by decide +kernel
theorem dX9_isSo_31 : decode cX9_isSo 31 = .ok (.iload_n 1, 1) := by decide +kernel
theorem dX9_isSo_32 : decode cX9_isSo 32 = .ok (.iaload, 1) := by decide +kernel
theorem dX9_isSo_33 : decode cX9_isSo 33 = .ok (.aload_n 0, 1) := by decide +kernel
theorem dX9_isSo_34 : decode cX9_isSo 34 = .ok (.getfield 24, 3) := by decide +kernel
theorem dX9_isSo_37 : decode cX9_isSo 37 = .ok (.iload_n 1, 1) := by decide +kernel
theorem dX9_isSo_38 : decode cX9_isSo 38 = .ok (.iaload, 1) := by decide +kernel
theorem dX9_isSo_39 : decode cX9_isSo 39 = .ok (.aload_n 2, 1) := by decide +kernel
theorem dX9_isSo_40 : decode cX9_isSo 40 = .ok (.invokevirtual 41, 3) := by decide +kernel
theorem dX9_isSo_43 : decode cX9_isSo 43 = .ok (.ifCond .eq 7, 3) := by decide +kernel
theorem dX9_isSo_46 : decode cX9_isSo 46 = .ok (.iconst 1, 1) := by decide +kernel
theorem dX9_isSo_47 : decode cX9_isSo 47 = .ok (.goto 4, 3) := by decide +kernel
theorem dX9_isSo_50 : decode cX9_isSo 50 = .ok (.iconst 0, 1) := by decide +kernel
theorem dX9_isSo_51 : decode cX9_isSo 51 = .ok (.ireturn, 1) := by decide +kernel
theorem dX9_valueOf_0 : decode cX9_valueOf 0 = .ok (.iload_n 1, 1) := by decide +kernel
theorem dX9_valueOf_1 : decode cX9_valueOf 1 = .ok (.aload_n 0, 1) := by decide +kernel
theorem dX9_valueOf_2 : decode cX9_valueOf 2 = .ok (.getfield 30, 3) := by decide +kernel
theorem dX9_valueOf_5 : decode cX9_valueOf 5 = .ok (.invokestatic 37, 3) := by decide +kernel
theorem dX9_valueOf_8 : decode cX9_valueOf 8 = .ok (.ifCond .eq 33, 3) := by decide +kernel
theorem dX9_valueOf_11 : decode cX9_valueOf 11 = .ok (.aload_n 0, 1) := by decide +kernel
theorem dX9_valueOf_12 : decode cX9_valueOf 12 = .ok (.iload_n 1, 1) := by decide +kernel
theorem dX9_valueOf_13 : decode cX9_valueOf 13 = .ok (.ifCond .ne 7, 3) := by decide +kernel
theorem dX9_valueOf_16 : decode cX9_valueOf 16 = .ok (.iconst 0, 1) := by decide +kernel
theorem dX9_valueOf_17 : decode cX9_valueOf 17 = .ok (.goto 11, 3) := by decide +kernel
theorem dX9_valueOf_20 : decode cX9_valueOf 20 = .ok (.aload_n 0, 1) := by decide +kernel
theorem dX9_valueOf_21 : decode cX9_valueOf 21 = .ok (.getfield 24, 3) := by decide +kernel
theorem dX9_valueOf_24 : decode cX9_valueOf 24 = .ok (.iload_n 1, 1) := by decide +kernel
theorem dX9_valueOf_25 : decode cX9_valueOf 25 = .ok (.iconst 1, 1) := by decide +kernel
theorem dX9_valueOf_26 : decode cX9_valueOf 26 = .ok (.isub, 1) := by decide +kernel
theorem dX9_valueOf_27 : decode cX9_valueOf 27 = .ok (.iaload, 1) := by decide +kernel
theorem dX9_valueOf_28 : decode cX9_valueOf 28 = .ok (.aload_n 0, 1) := by decide +kernel
theorem dX9_valueOf_29 : decode cX9_valueOf 29 = .ok (.getfield 21, 3) := by decide +kernel
theorem dX9_valueOf_32 : decode cX9_valueOf 32 = .ok (.iload_n 1, 1) := by decide +kernel
theorem dX9_valueOf_33 : decode cX9_valueOf 33 = .ok (.iaload, 1) := by decide +kernel
theorem dX9_valueOf_34 : decode cX9_valueOf 34 = .ok (.aload_n 2, 1) := by decide +kernel
theorem dX9_valueOf_35 : decode cX9_valueOf 35 = .ok (.invokevirtual 41, 3) := by decide +kernel
theorem dX9_valueOf_38 : decode cX9_valueOf 38 = .ok (.goto 4, 3) := by decide +kernel
theorem dX9_valueOf_41 : decode cX9_valueOf 41 = .ok (.iconst 0, 1) := by decide +kernel
theorem dX9_valueOf_42 : decode cX9_valueOf 42 = .ok (.ireturn, 1) := by decide +kernel
theorem dX10_sort_0 : decode cX10_sort 0 = .ok (.iload_n 1, 1) := by decide +kernel
theorem dX10_sort_1 : decode cX10_sort 1 = .ok (.iconst 3, 1) := by decide +kernel
theorem dX10_sort_2 : decode cX10_sort 2 = .ok (.invokestatic 85, 3) := by decide +kernel
theorem dX10_sort_5 : decode cX10_sort 5 = .ok (.ifCond .ne 5, 3) := by decide +kernel
theorem dX10_sort_8 : decode cX10_sort 8 = .ok (.iconst 0, 1) := by decide +kernel
theorem dX10_sort_9 : decode cX10_sort 9 = .ok (.ireturn, 1) := by decide +kernel
theorem dX10_sort_10 : decode cX10_sort 10 = .ok (.aload_n 0, 1) := by decide +kernel
theorem dX10_sort_11 : decode cX10_sort 11 = .ok (.getfield 45, 3) := by decide +kernel
theorem dX10_sort_14 : decode cX10_sort 14 = .ok (.iload_n 1, 1) := by decide +kernel
theorem dX10_sort_15 : decode cX10_sort 15 = .ok (.putfield 89, 3) := by decide +kernel
theorem dX10_sort_18 : decode cX10_sort 18 = .ok (.iconst 1, 1) := by decide +kernel
theorem dX10_sort_19 : decode cX10_sort 19 = .ok (.ireturn, 1) := by decide +kernel
theorem dX10_sky_0 : decode cX10_sky 0 = .ok (.aload_n 0, 1) := by decide +kernel
theorem dX10_sky_1 : decode cX10_sky 1 = .ok (.getfield 12, 3) := by decide +kernel
theorem dX10_sky_4 : decode cX10_sky 4 = .ok (.iload_n 1, 1) := by decide +kernel
theorem dX10_sky_5 : decode cX10_sky 5 = .ok (.iload_n 2, 1) := by decide +kernel
theorem dX10_sky_6 : decode cX10_sky 6 = .ok (.iload_n 3, 1) := by decide +kernel
theorem dX10_sky_7 : decode cX10_sky 7 = .ok (.invokevirtual 92, 3) := by decide +kernel
theorem dX10_sky_10 : decode cX10_sky 10 = .ok (.ireturn, 1) := by decide +kernel
theorem dX10_heap_0 : decode cX10_heap 0 = .ok (.iload_n 1, 1) := by decide +kernel
theorem dX10_heap_1 : decode cX10_heap 1 = .ok (.iload_n 2, 1) := by decide +kernel
theorem dX10_heap_2 : decode cX10_heap 2 = .ok (.iload_n 3, 1) := by decide +kernel
theorem dX10_heap_3 : decode cX10_heap 3 = .ok (.invokestatic 96, 3) := by decide +kernel
theorem dX10_heap_6 : decode cX10_heap 6 = .ok (.istore 6, 2) := by decide +kernel
theorem dX10_heap_8 : decode cX10_heap 8 = .ok (.iload 6, 2) := by decide +kernel
theorem dX10_heap_10 : decode cX10_heap 10 = .ok (.iconst (-1), 1) := by decide +kernel
theorem dX10_heap_11 : decode cX10_heap 11 = .ok (.if_icmp .eq 24, 3) := by decide +kernel
theorem dX10_heap_14 : decode cX10_heap 14 = .ok (.iload 4, 2) := by decide +kernel
theorem dX10_heap_16 : decode cX10_heap 16 = .ok (.bipush 100, 2) := by decide +kernel
theorem dX10_heap_18 : decode cX10_heap 18 = .ok (.invokestatic 85, 3) := by decide +kernel
theorem dX10_heap_21 : decode cX10_heap 21 = .ok (.ifCond .eq 14, 3) := by decide +kernel
theorem dX10_heap_24 : decode cX10_heap 24 = .ok (.iload 5, 2) := by decide +kernel
theorem dX10_heap_26 : decode cX10_heap 26 = .ok (.sipush 10000, 3) := by decide +kernel
theorem dX10_heap_29 : decode cX10_heap 29 = .ok (.invokestatic 85, 3) := by decide +kernel
theorem dX10_heap_32 : decode cX10_heap 32 = .ok (.ifCond .ne 5, 3) := by decide +kernel
theorem dX10_heap_35 : decode cX10_heap 35 = .ok (.iconst 0, 1) := by decide +kernel
theorem dX10_heap_36 : decode cX10_heap 36 = .ok (.ireturn, 1) := by decide +kernel
theorem dX10_heap_37 : decode cX10_heap 37 = .ok (.aload_n 0, 1) := by decide +kernel
theorem dX10_heap_38 : decode cX10_heap 38 = .ok (.getfield 21, 3) := by decide +kernel
theorem dX10_heap_41 : decode cX10_heap 41 = .ok (.iload 6, 2) := by decide +kernel
theorem dX10_heap_43 : decode cX10_heap 43 = .ok (.iconst 4, 1) := by decide +kernel
theorem dX10_heap_44 : decode cX10_heap 44 = .ok (.idiv, 1) := by decide +kernel
theorem dX10_heap_45 : decode cX10_heap 45 = .ok (.invokevirtual 100, 3) := by decide +kernel
theorem dX10_heap_48 : decode cX10_heap 48 = .ok (.istore 7, 2) := by decide +kernel
theorem dX10_heap_50 : decode cX10_heap 50 = .ok (.iload 4, 2) := by decide +kernel
theorem dX10_heap_52 : decode cX10_heap 52 = .ok (.ifCond .le 12, 3) := by decide +kernel
theorem dX10_heap_55 : decode cX10_heap 55 = .ok (.iload_n 3, 1) := by decide +kernel
theorem dX10_heap_56 : decode cX10_heap 56 = .ok (.iload 7, 2) := by decide +kernel
theorem dX10_heap_58 : decode cX10_heap 58 = .ok (.if_icmp .le 21, 3) := by decide +kernel
theorem dX10_heap_61 : decode cX10_heap 61 = .ok (.goto 16, 3) := by decide +kernel
theorem dX10_heap_64 : decode cX10_heap 64 = .ok (.iload 5, 2) := by decide +kernel
theorem dX10_heap_66 : decode cX10_heap 66 = .ok (.ifCond .gt 11, 3) := by decide +kernel
theorem dX10_heap_69 : decode cX10_heap 69 = .ok (.iload_n 3, 1) := by decide +kernel
theorem dX10_heap_70 : decode cX10_heap 70 = .ok (.iconst 1, 1) := by decide +kernel
theorem dX10_heap_71 : decode cX10_heap 71 = .ok (.iadd, 1) := by decide +kernel
theorem dX10_heap_72 : decode cX10_heap 72 = .ok (.iload 7, 2) := by decide +kernel
theorem dX10_heap_74 : decode cX10_heap 74 = .ok (.if_icmp .ge 5, 3) := by decide +kernel
theorem dX10_heap_77 : decode cX10_heap 77 = .ok (.iconst 0, 1) := by decide +kernel
theorem dX10_heap_78 : decode cX10_heap 78 = .ok (.ireturn, 1) := by decide +kernel
theorem dX10_heap_79 : decode cX10_heap 79 = .ok (.aload_n 0, 1) := by decide +kernel
theorem dX10_heap_80 : decode cX10_heap 80 = .ok (.getfield 21, 3) := by decide +kernel
theorem dX10_heap_83 : decode cX10_heap 83 = .ok (.getfield 104, 3) := by decide +kernel
theorem dX10_heap_86 : decode cX10_heap 86 = .ok (.iload 6, 2) := by decide +kernel
theorem dX10_heap_88 : decode cX10_heap 88 = .ok (.iload 4, 2) := by decide +kernel
theorem dX10_heap_90 : decode cX10_heap 90 = .ok (.iastore, 1) := by decide +kernel
theorem dX10_heap_91 : decode cX10_heap 91 = .ok (.aload_n 0, 1) := by decide +kernel
theorem dX10_heap_92 : decode cX10_heap 92 = .ok (.getfield 21, 3) := by decide +kernel
theorem dX10_heap_95 : decode cX10_heap 95 = .ok (.getfield 107, 3) := by decide +kernel
theorem dX10_heap_98 : decode cX10_heap 98 = .ok (.iload 6, 2) := by decide +kernel
theorem dX10_heap_100 : decode cX10_heap 100 = .ok (.iload 5, 2) := by decide +kernel
theorem dX10_heap_102 : decode cX10_heap 102 = .ok (.iastore, 1) := by decide +kernel
theorem dX10_heap_103 : decode cX10_heap 103 = .ok (.iconst 1, 1) := by decide +kernel
theorem dX10_heap_104 : decode cX10_heap 104 = .ok (.ireturn, 1) := by decide +kernel
theorem dX10_cell_0 : decode cX10_cell 0 = .ok (.aload_n 0, 1) := by decide +kernel
theorem dX10_cell_1 : decode cX10_cell 1 = .ok (.iload_n 1, 1) := by decide +kernel
theorem dX10_cell_2 : decode cX10_cell 2 = .ok (.invokevirtual 110, 3) := by decide +kernel
theorem dX10_cell_5 : decode cX10_cell 5 = .ok (.astore 6, 2) := by decide +kernel
theorem dX10_cell_7 : decode cX10_cell 7 = .ok (.iload_n 1, 1) := by decide +kernel
theorem dX10_cell_8 : decode cX10_cell 8 = .ok (.iload_n 2, 1) := by decide +kernel
theorem dX10_cell_9 : decode cX10_cell 9 = .ok (.iload_n 3, 1) := by decide +kernel
theorem dX10_cell_10 : decode cX10_cell 10 = .ok (.iload 4, 2) := by decide +kernel
theorem dX10_cell_12 : decode cX10_cell 12 = .ok (.invokestatic 114, 3) := by decide +kernel
theorem dX10_cell_15 : decode cX10_cell 15 = .ok (.istore 7, 2) := by decide +kernel
theorem dX10_cell_17 : decode cX10_cell 17 = .ok (.iload 7, 2) := by decide +kernel
theorem dX10_cell_19 : decode cX10_cell 19 = .ok (.iconst (-1), 1) := by decide +kernel
theorem dX10_cell_20 : decode cX10_cell 20 = .ok (.if_icmp .ne 5, 3) := by decide +kernel
theorem dX10_cell_23 : decode cX10_cell 23 = .ok (.iconst (-1), 1) := by decide +kernel
theorem dX10_cell_24 : decode cX10_cell 24 = .ok (.ireturn, 1) := by decide +kernel
theorem dX10_cell_25 : decode cX10_cell 25 = .ok (.iload 5, 2) := by decide +kernel
theorem dX10_cell_27 : decode cX10_cell 27 = .ok (.tableswitch 77 0 4 #[33, 42, 51, 59, 68], 33) := by decide +kernel
theorem dX10_cell_60 : decode cX10_cell 60 = .ok (.aload 6, 2) := by decide +kernel
theorem dX10_cell_62 : decode cX10_cell 62 = .ok (.getfield 104, 3) := by decide +kernel
theorem dX10_cell_65 : decode cX10_cell 65 = .ok (.iload 7, 2) := by decide +kernel
theorem dX10_cell_67 : decode cX10_cell 67 = .ok (.iaload, 1) := by decide +kernel
theorem dX10_cell_68 : decode cX10_cell 68 = .ok (.ireturn, 1) := by decide +kernel
theorem dX10_cell_69 : decode cX10_cell 69 = .ok (.aload 6, 2) := by decide +kernel
theorem dX10_cell_71 : decode cX10_cell 71 = .ok (.getfield 107, 3) := by decide +kernel
theorem dX10_cell_74 : decode cX10_cell 74 = .ok (.iload 7, 2) := by decide +kernel
theorem dX10_cell_76 : decode cX10_cell 76 = .ok (.iaload, 1) := by decide +kernel
theorem dX10_cell_77 : decode cX10_cell 77 = .ok (.ireturn, 1) := by decide +kernel
theorem dX10_cell_78 : decode cX10_cell 78 = .ok (.aload 6, 2) := by decide +kernel
theorem dX10_cell_80 : decode cX10_cell 80 = .ok (.iload 7, 2) := by decide +kernel
theorem dX10_cell_82 : decode cX10_cell 82 = .ok (.invokevirtual 118, 3) := by decide +kernel
theorem dX10_cell_85 : decode cX10_cell 85 = .ok (.ireturn, 1) := by decide +kernel
theorem dX10_cell_86 : decode cX10_cell 86 = .ok (.aload 6, 2) := by decide +kernel
theorem dX10_cell_88 : decode cX10_cell 88 = .ok (.getfield 121, 3) := by decide +kernel
theorem dX10_cell_91 : decode cX10_cell 91 = .ok (.iload 7, 2) := by decide +kernel
theorem dX10_cell_93 : decode cX10_cell 93 = .ok (.iaload, 1) := by decide +kernel
theorem dX10_cell_94 : decode cX10_cell 94 = .ok (.ireturn, 1) := by decide +kernel
theorem dX10_cell_95 : decode cX10_cell 95 = .ok (.aload 6, 2) := by decide +kernel
theorem dX10_cell_97 : decode cX10_cell 97 = .ok (.getfield 124, 3) := by decide +kernel
theorem dX10_cell_100 : decode cX10_cell 100 = .ok (.iload 7, 2) := by decide +kernel
theorem dX10_cell_102 : decode cX10_cell 102 = .ok (.iaload, 1) := by decide +kernel
theorem dX10_cell_103 : decode cX10_cell 103 = .ok (.ireturn, 1) := by decide +kernel
theorem dX10_cell_104 : decode cX10_cell 104 = .ok (.iconst (-1), 1) := by decide +kernel
theorem dX10_cell_105 : decode cX10_cell 105 = .ok (.ireturn, 1) := by decide +kernel
theorem dX10_load_0 : decode cX10_load 0 = .ok (.iload_n 1, 1) := by decide +kernel
theorem dX10_load_1 : decode cX10_load 1 = .ok (.iload_n 2, 1) := by decide +kernel
theorem dX10_load_2 : decode cX10_load 2 = .ok (.iconst 0, 1) := by decide +kernel
theorem dX10_load_3 : decode cX10_load 3 = .ok (.invokestatic 96, 3) := by decide +kernel
theorem dX10_load_6 : decode cX10_load 6 = .ok (.istore 5, 2) := by decide +kernel
theorem dX10_load_8 : decode cX10_load 8 = .ok (.iload_n 3, 1) := by decide +kernel
theorem dX10_load_9 : decode cX10_load 9 = .ok (.iload 4, 2) := by decide +kernel
theorem dX10_load_11 : decode cX10_load 11 = .ok (.iconst 0, 1) := by decide +kernel
theorem dX10_load_12 : decode cX10_load 12 = .ok (.invokestatic 190, 3) := by decide +kernel
theorem dX10_load_15 : decode cX10_load 15 = .ok (.istore 6, 2) := by decide +kernel
theorem dX10_load_17 : decode cX10_load 17 = .ok (.iload 5, 2) := by decide +kernel
theorem dX10_load_19 : decode cX10_load 19 = .ok (.iconst (-1), 1) := by decide +kernel
theorem dX10_load_20 : decode cX10_load 20 = .ok (.if_icmp .eq 19, 3) := by decide +kernel
theorem dX10_load_23 : decode cX10_load 23 = .ok (.iload 6, 2) := by decide +kernel
theorem dX10_load_25 : decode cX10_load 25 = .ok (.iconst (-1), 1) := by decide +kernel
theorem dX10_load_26 : decode cX10_load 26 = .ok (.if_icmp .eq 13, 3) := by decide +kernel
theorem dX10_load_29 : decode cX10_load 29 = .ok (.aload_n 0, 1) := by decide +kernel
theorem dX10_load_30 : decode cX10_load 30 = .ok (.getfield 28, 3) := by decide +kernel
theorem dX10_load_33 : decode cX10_load 33 = .ok (.getfield 193, 3) := by decide +kernel
theorem dX10_load_36 : decode cX10_load 36 = .ok (.ifCond .eq 5, 3) := by decide +kernel
theorem dX10_load_39 : decode cX10_load 39 = .ok (.iconst 0, 1) := by decide +kernel
theorem dX10_load_40 : decode cX10_load 40 = .ok (.ireturn, 1) := by decide +kernel
theorem dX10_load_41 : decode cX10_load 41 = .ok (.aload_n 0, 1) := by decide +kernel
theorem dX10_load_42 : decode cX10_load 42 = .ok (.getfield 21, 3) := by decide +kernel
theorem dX10_load_45 : decode cX10_load 45 = .ok (.iload 5, 2) := by decide +kernel
theorem dX10_load_47 : decode cX10_load 47 = .ok (.iconst 4, 1) := by decide +kernel
theorem dX10_load_48 : decode cX10_load 48 = .ok (.idiv, 1) := by decide +kernel
theorem dX10_load_49 : decode cX10_load 49 = .ok (.aload_n 0, 1) := by decide +kernel
theorem dX10_load_50 : decode cX10_load 50 = .ok (.getfield 28, 3) := by decide +kernel
theorem dX10_load_53 : decode cX10_load 53 = .ok (.getfield 196, 3) := by decide +kernel
theorem dX10_load_56 : decode cX10_load 56 = .ok (.iload 6, 2) := by decide +kernel
theorem dX10_load_58 : decode cX10_load 58 = .ok (.bipush 6, 2) := by decide +kernel
theorem dX10_load_60 : decode cX10_load 60 = .ok (.idiv, 1) := by decide +kernel
theorem dX10_load_61 : decode cX10_load 61 = .ok (.invokevirtual 199, 3) := by decide +kernel
theorem dX10_load_64 : decode cX10_load 64 = .ok (.ireturn, 1) := by decide +kernel
theorem dX10_arm_0 : decode cX10_arm 0 = .ok (.aload_n 0, 1) := by decide +kernel
theorem dX10_arm_1 : decode cX10_arm 1 = .ok (.getfield 28, 3) := by decide +kernel
theorem dX10_arm_4 : decode cX10_arm 4 = .ok (.iload_n 1, 1) := by decide +kernel
theorem dX10_arm_5 : decode cX10_arm 5 = .ok (.iload_n 2, 1) := by decide +kernel
theorem dX10_arm_6 : decode cX10_arm 6 = .ok (.invokevirtual 203, 3) := by decide +kernel
theorem dX10_arm_9 : decode cX10_arm 9 = .ok (.ireturn, 1) := by decide +kernel
theorem dX10_ship_0 : decode cX10_ship 0 = .ok (.iload_n 1, 1) := by decide +kernel
theorem dX10_ship_1 : decode cX10_ship 1 = .ok (.tableswitch 161 0 10 #[59, 64, 80, 88, 96, 104, 112, 123, 131, 142, 153], 59) := by decide +kernel
theorem dX10_ship_60 : decode cX10_ship 60 = .ok (.aload_n 0, 1) := by decide +kernel
theorem dX10_ship_61 : decode cX10_ship 61 = .ok (.getfield 165, 3) := by decide +kernel
theorem dX10_ship_64 : decode cX10_ship 64 = .ok (.ireturn, 1) := by decide +kernel
theorem dX10_ship_65 : decode cX10_ship 65 = .ok (.aload_n 0, 1) := by decide +kernel
theorem dX10_ship_66 : decode cX10_ship 66 = .ok (.getfield 28, 3) := by decide +kernel
theorem dX10_ship_69 : decode cX10_ship 69 = .ok (.getfield 193, 3) := by decide +kernel
theorem dX10_ship_72 : decode cX10_ship 72 = .ok (.ifCond .eq 7, 3) := by decide +kernel
theorem dX10_ship_75 : decode cX10_ship 75 = .ok (.iconst 1, 1) := by decide +kernel
theorem dX10_ship_76 : decode cX10_ship 76 = .ok (.goto 4, 3) := by decide +kernel
theorem dX10_ship_79 : decode cX10_ship 79 = .ok (.iconst 0, 1) := by decide +kernel
theorem dX10_ship_80 : decode cX10_ship 80 = .ok (.ireturn, 1) := by decide +kernel
theorem dX10_ship_81 : decode cX10_ship 81 = .ok (.aload_n 0, 1) := by decide +kernel
theorem dX10_ship_82 : decode cX10_ship 82 = .ok (.getfield 28, 3) := by decide +kernel
theorem dX10_ship_85 : decode cX10_ship 85 = .ok (.invokevirtual 209, 3) := by decide +kernel
theorem dX10_ship_88 : decode cX10_ship 88 = .ok (.ireturn, 1) := by decide +kernel
theorem dX10_ship_89 : decode cX10_ship 89 = .ok (.aload_n 0, 1) := by decide +kernel
theorem dX10_ship_90 : decode cX10_ship 90 = .ok (.getfield 28, 3) := by decide +kernel
theorem dX10_ship_93 : decode cX10_ship 93 = .ok (.invokevirtual 213, 3) := by decide +kernel
theorem dX10_ship_96 : decode cX10_ship 96 = .ok (.ireturn, 1) := by decide +kernel
theorem dX10_ship_97 : decode cX10_ship 97 = .ok (.aload_n 0, 1) := by decide +kernel
theorem dX10_ship_98 : decode cX10_ship 98 = .ok (.getfield 28, 3) := by decide +kernel
theorem dX10_ship_101 : decode cX10_ship 101 = .ok (.getfield 216, 3) := by decide +kernel
theorem dX10_ship_104 : decode cX10_ship 104 = .ok (.ireturn, 1) := by decide +kernel
theorem dX10_ship_105 : decode cX10_ship 105 = .ok (.aload_n 0, 1) := by decide +kernel
theorem dX10_ship_106 : decode cX10_ship 106 = .ok (.getfield 28, 3) := by decide +kernel
theorem dX10_ship_109 : decode cX10_ship 109 = .ok (.getfield 219, 3) := by decide +kernel
theorem dX10_ship_112 : decode cX10_ship 112 = .ok (.ireturn, 1) := by decide +kernel
theorem dX10_ship_113 : decode cX10_ship 113 = .ok (.aload_n 0, 1) := by decide +kernel
theorem dX10_ship_114 : decode cX10_ship 114 = .ok (.getfield 28, 3) := by decide +kernel
theorem dX10_ship_117 : decode cX10_ship 117 = .ok (.getfield 196, 3) := by decide +kernel
theorem dX10_ship_120 : decode cX10_ship 120 = .ok (.getfield 222, 3) := by decide +kernel
theorem dX10_ship_123 : decode cX10_ship 123 = .ok (.ireturn, 1) := by decide +kernel
theorem dX10_ship_124 : decode cX10_ship 124 = .ok (.aload_n 0, 1) := by decide +kernel
theorem dX10_ship_125 : decode cX10_ship 125 = .ok (.getfield 21, 3) := by decide +kernel
theorem dX10_ship_128 : decode cX10_ship 128 = .ok (.getfield 222, 3) := by decide +kernel
theorem dX10_ship_131 : decode cX10_ship 131 = .ok (.ireturn, 1) := by decide +kernel
theorem dX10_ship_132 : decode cX10_ship 132 = .ok (.aload_n 0, 1) := by decide +kernel
theorem dX10_ship_133 : decode cX10_ship 133 = .ok (.getfield 28, 3) := by decide +kernel
theorem dX10_ship_136 : decode cX10_ship 136 = .ok (.getfield 196, 3) := by decide +kernel
theorem dX10_ship_139 : decode cX10_ship 139 = .ok (.invokevirtual 225, 3) := by decide +kernel
theorem dX10_ship_142 : decode cX10_ship 142 = .ok (.ireturn, 1) := by decide +kernel
theorem dX10_ship_143 : decode cX10_ship 143 = .ok (.aload_n 0, 1) := by decide +kernel
theorem dX10_ship_144 : decode cX10_ship 144 = .ok (.getfield 28, 3) := by decide +kernel
theorem dX10_ship_147 : decode cX10_ship 147 = .ok (.getfield 196, 3) := by decide +kernel
theorem dX10_ship_150 : decode cX10_ship 150 = .ok (.invokevirtual 228, 3) := by decide +kernel
theorem dX10_ship_153 : decode cX10_ship 153 = .ok (.ireturn, 1) := by decide +kernel
theorem dX10_ship_154 : decode cX10_ship 154 = .ok (.aload_n 0, 1) := by decide +kernel
theorem dX10_ship_155 : decode cX10_ship 155 = .ok (.getfield 45, 3) := by decide +kernel
theorem dX10_ship_158 : decode cX10_ship 158 = .ok (.getfield 89, 3) := by decide +kernel
theorem dX10_ship_161 : decode cX10_ship 161 = .ok (.ireturn, 1) := by decide +kernel
theorem dX10_ship_162 : decode cX10_ship 162 = .ok (.ldc 231, 2) := by decide +kernel
theorem dX10_ship_164 : decode cX10_ship 164 = .ok (.ireturn, 1) := by decide +kernel
theorem dX10_arms_0 : decode cX10_arms 0 = .ok (.iload_n 1, 1) := by decide +kernel
theorem dX10_arms_1 : decode cX10_arms 1 = .ok (.bipush 61, 2) := by decide +kernel
theorem dX10_arms_3 : decode cX10_arms 3 = .ok (.invokestatic 85, 3) := by decide +kernel
theorem dX10_arms_6 : decode cX10_arms 6 = .ok (.ifCond .eq 14, 3) := by decide +kernel
theorem dX10_arms_9 : decode cX10_arms 9 = .ok (.aload_n 0, 1) := by decide +kernel
theorem dX10_arms_10 : decode cX10_arms 10 = .ok (.getfield 28, 3) := by decide +kernel
theorem dX10_arms_13 : decode cX10_arms 13 = .ok (.iload_n 1, 1) := by decide +kernel
theorem dX10_arms_14 : decode cX10_arms 14 = .ok (.invokevirtual 232, 3) := by decide +kernel
theorem dX10_arms_17 : decode cX10_arms 17 = .ok (.goto 4, 3) := by decide +kernel
theorem dX10_arms_20 : decode cX10_arms 20 = .ok (.iconst (-1), 1) := by decide +kernel
theorem dX10_arms_21 : decode cX10_arms 21 = .ok (.ireturn, 1) := by decide +kernel
theorem dX10_split_0 : decode cX10_split 0 = .ok (.iload_n 1, 1) := by decide +kernel
theorem dX10_split_1 : decode cX10_split 1 = .ok (.sipush 145, 3) := by decide +kernel
theorem dX10_split_4 : decode cX10_split 4 = .ok (.invokestatic 85, 3) := by decide +kernel
theorem dX10_split_7 : decode cX10_split 7 = .ok (.ifCond .eq 11, 3) := by decide +kernel
theorem dX10_split_10 : decode cX10_split 10 = .ok (.iload_n 2, 1) := by decide +kernel
theorem dX10_split_11 : decode cX10_split 11 = .ok (.iconst 5, 1) := by decide +kernel
theorem dX10_split_12 : decode cX10_split 12 = .ok (.invokestatic 85, 3) := by decide +kernel
theorem dX10_split_15 : decode cX10_split 15 = .ok (.ifCond .ne 5, 3) := by decide +kernel
theorem dX10_split_18 : decode cX10_split 18 = .ok (.iconst (-1), 1) := by decide +kernel
theorem dX10_split_19 : decode cX10_split 19 = .ok (.ireturn, 1) := by decide +kernel
theorem dX10_split_20 : decode cX10_split 20 = .ok (.ldc 241, 2) := by decide +kernel
theorem dX10_split_22 : decode cX10_split 22 = .ok (.istore_n 3, 1) := by decide +kernel
theorem dX10_split_23 : decode cX10_split 23 = .ok (.iconst 0, 1) := by decide +kernel
theorem dX10_split_24 : decode cX10_split 24 = .ok (.istore 4, 2) := by decide +kernel
theorem dX10_split_26 : decode cX10_split 26 = .ok (.iconst 0, 1) := by decide +kernel
theorem dX10_split_27 : decode cX10_split 27 = .ok (.istore 5, 2) := by decide +kernel
theorem dX10_split_29 : decode cX10_split 29 = .ok (.iload 5, 2) := by decide +kernel
theorem dX10_split_31 : decode cX10_split 31 = .ok (.bipush 36, 2) := by decide +kernel
theorem dX10_split_33 : decode cX10_split 33 = .ok (.if_icmp .gt 136, 3) := by decide +kernel
theorem dX10_split_36 : decode cX10_split 36 = .ok (.iconst 0, 1) := by decide +kernel
theorem dX10_split_37 : decode cX10_split 37 = .ok (.istore 6, 2) := by decide +kernel
theorem dX10_split_39 : decode cX10_split 39 = .ok (.iload 6, 2) := by decide +kernel
theorem dX10_split_41 : decode cX10_split 41 = .ok (.bipush 36, 2) := by decide +kernel
theorem dX10_split_43 : decode cX10_split 43 = .ok (.if_icmp .gt 120, 3) := by decide +kernel
theorem dX10_split_46 : decode cX10_split 46 = .ok (.iload 5, 2) := by decide +kernel
theorem dX10_split_48 : decode cX10_split 48 = .ok (.invokestatic 242, 3) := by decide +kernel
theorem dX10_split_51 : decode cX10_split 51 = .ok (.iload 6, 2) := by decide +kernel
theorem dX10_split_53 : decode cX10_split 53 = .ok (.invokestatic 242, 3) := by decide +kernel
theorem dX10_split_56 : decode cX10_split 56 = .ok (.iadd, 1) := by decide +kernel
theorem dX10_split_57 : decode cX10_split 57 = .ok (.istore 7, 2) := by decide +kernel
theorem dX10_split_59 : decode cX10_split 59 = .ok (.iload_n 1, 1) := by decide +kernel
theorem dX10_split_60 : decode cX10_split 60 = .ok (.iload 5, 2) := by decide +kernel
theorem dX10_split_62 : decode cX10_split 62 = .ok (.isub, 1) := by decide +kernel
theorem dX10_split_63 : decode cX10_split 63 = .ok (.iload 6, 2) := by decide +kernel
theorem dX10_split_65 : decode cX10_split 65 = .ok (.isub, 1) := by decide +kernel
theorem dX10_split_66 : decode cX10_split 66 = .ok (.istore 8, 2) := by decide +kernel
theorem dX10_split_68 : decode cX10_split 68 = .ok (.iconst 0, 1) := by decide +kernel
theorem dX10_split_69 : decode cX10_split 69 = .ok (.istore 9, 2) := by decide +kernel
theorem dX10_split_71 : decode cX10_split 71 = .ok (.iload 9, 2) := by decide +kernel
theorem dX10_split_73 : decode cX10_split 73 = .ok (.bipush 36, 2) := by decide +kernel
theorem dX10_split_75 : decode cX10_split 75 = .ok (.if_icmp .gt 82, 3) := by decide +kernel
theorem dX10_split_78 : decode cX10_split 78 = .ok (.iload 7, 2) := by decide +kernel
theorem dX10_split_80 : decode cX10_split 80 = .ok (.iload_n 3, 1) := by decide +kernel
theorem dX10_split_81 : decode cX10_split 81 = .ok (.if_icmp .ge 76, 3) := by decide +kernel
theorem dX10_split_84 : decode cX10_split 84 = .ok (.iload 8, 2) := by decide +kernel
theorem dX10_split_86 : decode cX10_split 86 = .ok (.iload 9, 2) := by decide +kernel
theorem dX10_split_88 : decode cX10_split 88 = .ok (.isub, 1) := by decide +kernel
theorem dX10_split_89 : decode cX10_split 89 = .ok (.istore 10, 2) := by decide +kernel
theorem dX10_split_91 : decode cX10_split 91 = .ok (.iload 10, 2) := by decide +kernel
theorem dX10_split_93 : decode cX10_split 93 = .ok (.bipush 37, 2) := by decide +kernel
theorem dX10_split_95 : decode cX10_split 95 = .ok (.invokestatic 85, 3) := by decide +kernel
theorem dX10_split_98 : decode cX10_split 98 = .ok (.ifCond .ne 6, 3) := by decide +kernel
theorem dX10_split_101 : decode cX10_split 101 = .ok (.goto 50, 3) := by decide +kernel
theorem dX10_split_104 : decode cX10_split 104 = .ok (.iload 7, 2) := by decide +kernel
theorem dX10_split_106 : decode cX10_split 106 = .ok (.iload 9, 2) := by decide +kernel
theorem dX10_split_108 : decode cX10_split 108 = .ok (.invokestatic 242, 3) := by decide +kernel
theorem dX10_split_111 : decode cX10_split 111 = .ok (.iadd, 1) := by decide +kernel
theorem dX10_split_112 : decode cX10_split 112 = .ok (.iload 10, 2) := by decide +kernel
theorem dX10_split_114 : decode cX10_split 114 = .ok (.invokestatic 242, 3) := by decide +kernel
theorem dX10_split_117 : decode cX10_split 117 = .ok (.iadd, 1) := by decide +kernel
theorem dX10_split_118 : decode cX10_split 118 = .ok (.istore 11, 2) := by decide +kernel
theorem dX10_split_120 : decode cX10_split 120 = .ok (.iload 11, 2) := by decide +kernel
theorem dX10_split_122 : decode cX10_split 122 = .ok (.iload_n 3, 1) := by decide +kernel
theorem dX10_split_123 : decode cX10_split 123 = .ok (.if_icmp .ge 28, 3) := by decide +kernel
theorem dX10_split_126 : decode cX10_split 126 = .ok (.iload 11, 2) := by decide +kernel
theorem dX10_split_128 : decode cX10_split 128 = .ok (.istore_n 3, 1) := by decide +kernel
theorem dX10_split_129 : decode cX10_split 129 = .ok (.iload 5, 2) := by decide +kernel
theorem dX10_split_131 : decode cX10_split 131 = .ok (.bipush 64, 2) := by decide +kernel
theorem dX10_split_133 : decode cX10_split 133 = .ok (.imul, 1) := by decide +kernel
theorem dX10_split_134 : decode cX10_split 134 = .ok (.iload 6, 2) := by decide +kernel
theorem dX10_split_136 : decode cX10_split 136 = .ok (.iadd, 1) := by decide +kernel
theorem dX10_split_137 : decode cX10_split 137 = .ok (.bipush 64, 2) := by decide +kernel
theorem dX10_split_139 : decode cX10_split 139 = .ok (.imul, 1) := by decide +kernel
theorem dX10_split_140 : decode cX10_split 140 = .ok (.iload 9, 2) := by decide +kernel
theorem dX10_split_142 : decode cX10_split 142 = .ok (.iadd, 1) := by decide +kernel
theorem dX10_split_143 : decode cX10_split 143 = .ok (.bipush 64, 2) := by decide +kernel
theorem dX10_split_145 : decode cX10_split 145 = .ok (.imul, 1) := by decide +kernel
theorem dX10_split_146 : decode cX10_split 146 = .ok (.iload 10, 2) := by decide +kernel
theorem dX10_split_148 : decode cX10_split 148 = .ok (.iadd, 1) := by decide +kernel
theorem dX10_split_149 : decode cX10_split 149 = .ok (.istore 4, 2) := by decide +kernel
theorem dX10_split_151 : decode cX10_split 151 = .ok (.iinc 9 1, 3) := by decide +kernel
theorem dX10_split_154 : decode cX10_split 154 = .ok (.goto (-83), 3) := by decide +kernel
theorem dX10_split_157 : decode cX10_split 157 = .ok (.iinc 6 1, 3) := by decide +kernel
theorem dX10_split_160 : decode cX10_split 160 = .ok (.goto (-121), 3) := by decide +kernel
theorem dX10_split_163 : decode cX10_split 163 = .ok (.iinc 5 1, 3) := by decide +kernel
theorem dX10_split_166 : decode cX10_split 166 = .ok (.goto (-137), 3) := by decide +kernel
theorem dX10_split_169 : decode cX10_split 169 = .ok (.iload_n 2, 1) := by decide +kernel
theorem dX10_split_170 : decode cX10_split 170 = .ok (.ifCond .ne 7, 3) := by decide +kernel
theorem dX10_split_173 : decode cX10_split 173 = .ok (.iload_n 3, 1) := by decide +kernel
theorem dX10_split_174 : decode cX10_split 174 = .ok (.goto 15, 3) := by decide +kernel
theorem dX10_split_177 : decode cX10_split 177 = .ok (.iload 4, 2) := by decide +kernel
theorem dX10_split_179 : decode cX10_split 179 = .ok (.bipush 6, 2) := by decide +kernel
theorem dX10_split_181 : decode cX10_split 181 = .ok (.iconst 4, 1) := by decide +kernel
theorem dX10_split_182 : decode cX10_split 182 = .ok (.iload_n 2, 1) := by decide +kernel
theorem dX10_split_183 : decode cX10_split 183 = .ok (.isub, 1) := by decide +kernel
theorem dX10_split_184 : decode cX10_split 184 = .ok (.imul, 1) := by decide +kernel
theorem dX10_split_185 : decode cX10_split 185 = .ok (.ishr, 1) := by decide +kernel
theorem dX10_split_186 : decode cX10_split 186 = .ok (.bipush 63, 2) := by decide +kernel
theorem dX10_split_188 : decode cX10_split 188 = .ok (.iand, 1) := by decide +kernel
theorem dX10_split_189 : decode cX10_split 189 = .ok (.ireturn, 1) := by decide +kernel
theorem dX10_can_0 : decode cX10_can 0 = .ok (.iload_n 1, 1) := by decide +kernel
theorem dX10_can_1 : decode cX10_can 1 = .ok (.iload_n 2, 1) := by decide +kernel
theorem dX10_can_2 : decode cX10_can 2 = .ok (.iload_n 3, 1) := by decide +kernel
theorem dX10_can_3 : decode cX10_can 3 = .ok (.invokestatic 96, 3) := by decide +kernel
theorem dX10_can_6 : decode cX10_can 6 = .ok (.istore 4, 2) := by decide +kernel
theorem dX10_can_8 : decode cX10_can 8 = .ok (.iload 4, 2) := by decide +kernel
theorem dX10_can_10 : decode cX10_can 10 = .ok (.iconst (-1), 1) := by decide +kernel
theorem dX10_can_11 : decode cX10_can 11 = .ok (.if_icmp .eq 16, 3) := by decide +kernel
theorem dX10_can_14 : decode cX10_can 14 = .ok (.aload_n 0, 1) := by decide +kernel
theorem dX10_can_15 : decode cX10_can 15 = .ok (.getfield 21, 3) := by decide +kernel
theorem dX10_can_18 : decode cX10_can 18 = .ok (.getfield 104, 3) := by decide +kernel
theorem dX10_can_21 : decode cX10_can 21 = .ok (.iload 4, 2) := by decide +kernel
theorem dX10_can_23 : decode cX10_can 23 = .ok (.iaload, 1) := by decide +kernel
theorem dX10_can_24 : decode cX10_can 24 = .ok (.ifCond .ne 5, 3) := by decide +kernel
theorem dX10_can_27 : decode cX10_can 27 = .ok (.iconst (-1), 1) := by decide +kernel
theorem dX10_can_28 : decode cX10_can 28 = .ok (.ireturn, 1) := by decide +kernel
theorem dX10_can_29 : decode cX10_can 29 = .ok (.aload_n 0, 1) := by decide +kernel
theorem dX10_can_30 : decode cX10_can 30 = .ok (.getfield 59, 3) := by decide +kernel
theorem dX10_can_33 : decode cX10_can 33 = .ok (.iload 4, 2) := by decide +kernel
theorem dX10_can_35 : decode cX10_can 35 = .ok (.aload_n 0, 1) := by decide +kernel
theorem dX10_can_36 : decode cX10_can 36 = .ok (.getfield 21, 3) := by decide +kernel
theorem dX10_can_39 : decode cX10_can 39 = .ok (.iload 4, 2) := by decide +kernel
theorem dX10_can_41 : decode cX10_can 41 = .ok (.invokevirtual 118, 3) := by decide +kernel
theorem dX10_can_44 : decode cX10_can 44 = .ok (.aload_n 0, 1) := by decide +kernel
theorem dX10_can_45 : decode cX10_can 45 = .ok (.getfield 165, 3) := by decide +kernel
theorem dX10_can_48 : decode cX10_can 48 = .ok (.invokevirtual 245, 3) := by decide +kernel
theorem dX10_can_51 : decode cX10_can 51 = .ok (.ireturn, 1) := by decide +kernel
theorem dX10_step_0 : decode cX10_step 0 = .ok (.iload_n 1, 1) := by decide +kernel
theorem dX10_step_1 : decode cX10_step 1 = .ok (.bipush 21, 2) := by decide +kernel
theorem dX10_step_3 : decode cX10_step 3 = .ok (.invokestatic 85, 3) := by decide +kernel
theorem dX10_step_6 : decode cX10_step 6 = .ok (.ifCond .ne 5, 3) := by decide +kernel
theorem dX10_step_9 : decode cX10_step 9 = .ok (.iconst 0, 1) := by decide +kernel
theorem dX10_step_10 : decode cX10_step 10 = .ok (.ireturn, 1) := by decide +kernel
theorem dX10_step_11 : decode cX10_step 11 = .ok (.aload_n 0, 1) := by decide +kernel
theorem dX10_step_12 : decode cX10_step 12 = .ok (.getfield 59, 3) := by decide +kernel
theorem dX10_step_15 : decode cX10_step 15 = .ok (.iload_n 1, 1) := by decide +kernel
theorem dX10_step_16 : decode cX10_step 16 = .ok (.putfield 248, 3) := by decide +kernel
theorem dX10_step_19 : decode cX10_step 19 = .ok (.iconst 1, 1) := by decide +kernel
theorem dX10_step_20 : decode cX10_step 20 = .ok (.ireturn, 1) := by decide +kernel
theorem dX10_span_0 : decode cX10_span 0 = .ok (.iload_n 1, 1) := by decide +kernel
theorem dX10_span_1 : decode cX10_span 1 = .ok (.iload_n 2, 1) := by decide +kernel
theorem dX10_span_2 : decode cX10_span 2 = .ok (.iload_n 3, 1) := by decide +kernel
theorem dX10_span_3 : decode cX10_span 3 = .ok (.invokestatic 96, 3) := by decide +kernel
theorem dX10_span_6 : decode cX10_span 6 = .ok (.istore 6, 2) := by decide +kernel
theorem dX10_span_8 : decode cX10_span 8 = .ok (.iload 6, 2) := by decide +kernel
theorem dX10_span_10 : decode cX10_span 10 = .ok (.iconst (-1), 1) := by decide +kernel
theorem dX10_span_11 : decode cX10_span 11 = .ok (.if_icmp .eq 23, 3) := by decide +kernel
theorem dX10_span_14 : decode cX10_span 14 = .ok (.iload 4, 2) := by decide +kernel
theorem dX10_span_16 : decode cX10_span 16 = .ok (.sipush 720, 3) := by decide +kernel
theorem dX10_span_19 : decode cX10_span 19 = .ok (.invokestatic 85, 3) := by decide +kernel
theorem dX10_span_22 : decode cX10_span 22 = .ok (.ifCond .eq 12, 3) := by decide +kernel
theorem dX10_span_25 : decode cX10_span 25 = .ok (.iload 5, 2) := by decide +kernel
theorem dX10_span_27 : decode cX10_span 27 = .ok (.iconst 2, 1) := by decide +kernel
theorem dX10_span_28 : decode cX10_span 28 = .ok (.invokestatic 85, 3) := by decide +kernel
theorem dX10_span_31 : decode cX10_span 31 = .ok (.ifCond .ne 5, 3) := by decide +kernel
theorem dX10_span_34 : decode cX10_span 34 = .ok (.iconst (-1), 1) := by decide +kernel
theorem dX10_span_35 : decode cX10_span 35 = .ok (.ireturn, 1) := by decide +kernel
theorem dX10_span_36 : decode cX10_span 36 = .ok (.iload 5, 2) := by decide +kernel
theorem dX10_span_38 : decode cX10_span 38 = .ok (.ifCond .ne 17, 3) := by decide +kernel
theorem dX10_span_41 : decode cX10_span 41 = .ok (.aload_n 0, 1) := by decide +kernel
theorem dX10_span_42 : decode cX10_span 42 = .ok (.getfield 59, 3) := by decide +kernel
theorem dX10_span_45 : decode cX10_span 45 = .ok (.iload 6, 2) := by decide +kernel
theorem dX10_span_47 : decode cX10_span 47 = .ok (.iload 4, 2) := by decide +kernel
theorem dX10_span_49 : decode cX10_span 49 = .ok (.invokevirtual 251, 3) := by decide +kernel
theorem dX10_span_52 : decode cX10_span 52 = .ok (.goto 14, 3) := by decide +kernel
theorem dX10_span_55 : decode cX10_span 55 = .ok (.aload_n 0, 1) := by decide +kernel
theorem dX10_span_56 : decode cX10_span 56 = .ok (.getfield 59, 3) := by decide +kernel
theorem dX10_span_59 : decode cX10_span 59 = .ok (.iload 6, 2) := by decide +kernel
theorem dX10_span_61 : decode cX10_span 61 = .ok (.iload 4, 2) := by decide +kernel
theorem dX10_span_63 : decode cX10_span 63 = .ok (.invokevirtual 255, 3) := by decide +kernel
theorem dX10_span_66 : decode cX10_span 66 = .ok (.ireturn, 1) := by decide +kernel
theorem dX10_mean_0 : decode cX10_mean 0 = .ok (.iload_n 1, 1) := by decide +kernel
theorem dX10_mean_1 : decode cX10_mean 1 = .ok (.sipush 720, 3) := by decide +kernel
theorem dX10_mean_4 : decode cX10_mean 4 = .ok (.invokestatic 85, 3) := by decide +kernel
theorem dX10_mean_7 : decode cX10_mean 7 = .ok (.ifCond .eq 11, 3) := by decide +kernel
theorem dX10_mean_10 : decode cX10_mean 10 = .ok (.iload_n 2, 1) := by decide +kernel
theorem dX10_mean_11 : decode cX10_mean 11 = .ok (.iconst 3, 1) := by decide +kernel
theorem dX10_mean_12 : decode cX10_mean 12 = .ok (.invokestatic 85, 3) := by decide +kernel
theorem dX10_mean_15 : decode cX10_mean 15 = .ok (.ifCond .ne 5, 3) := by decide +kernel
theorem dX10_mean_18 : decode cX10_mean 18 = .ok (.iconst (-1), 1) := by decide +kernel
theorem dX10_mean_19 : decode cX10_mean 19 = .ok (.ireturn, 1) := by decide +kernel
theorem dX10_mean_20 : decode cX10_mean 20 = .ok (.iload_n 2, 1) := by decide +kernel
theorem dX10_mean_21 : decode cX10_mean 21 = .ok (.iconst 2, 1) := by decide +kernel
theorem dX10_mean_22 : decode cX10_mean 22 = .ok (.if_icmp .ge 26, 3) := by decide +kernel
theorem dX10_mean_25 : decode cX10_mean 25 = .ok (.aload_n 0, 1) := by decide +kernel
theorem dX10_mean_26 : decode cX10_mean 26 = .ok (.getfield 59, 3) := by decide +kernel
theorem dX10_mean_29 : decode cX10_mean 29 = .ok (.aload_n 0, 1) := by decide +kernel
theorem dX10_mean_30 : decode cX10_mean 30 = .ok (.getfield 21, 3) := by decide +kernel
theorem dX10_mean_33 : decode cX10_mean 33 = .ok (.iload_n 1, 1) := by decide +kernel
theorem dX10_mean_34 : decode cX10_mean 34 = .ok (.iload_n 2, 1) := by decide +kernel
theorem dX10_mean_35 : decode cX10_mean 35 = .ok (.iconst 1, 1) := by decide +kernel
theorem dX10_mean_36 : decode cX10_mean 36 = .ok (.if_icmp .ne 7, 3) := by decide +kernel
theorem dX10_mean_39 : decode cX10_mean 39 = .ok (.iconst 1, 1) := by decide +kernel
theorem dX10_mean_40 : decode cX10_mean 40 = .ok (.goto 4, 3) := by decide +kernel
theorem dX10_mean_43 : decode cX10_mean 43 = .ok (.iconst 0, 1) := by decide +kernel
theorem dX10_mean_44 : decode cX10_mean 44 = .ok (.invokevirtual 258, 3) := by decide +kernel
theorem dX10_mean_47 : decode cX10_mean 47 = .ok (.ireturn, 1) := by decide +kernel
theorem dX10_mean_48 : decode cX10_mean 48 = .ok (.aload_n 0, 1) := by decide +kernel
theorem dX10_mean_49 : decode cX10_mean 49 = .ok (.getfield 59, 3) := by decide +kernel
theorem dX10_mean_52 : decode cX10_mean 52 = .ok (.aload_n 0, 1) := by decide +kernel
theorem dX10_mean_53 : decode cX10_mean 53 = .ok (.getfield 21, 3) := by decide +kernel
theorem dX10_mean_56 : decode cX10_mean 56 = .ok (.iload_n 1, 1) := by decide +kernel
theorem dX10_mean_57 : decode cX10_mean 57 = .ok (.iconst 0, 1) := by decide +kernel
theorem dX10_mean_58 : decode cX10_mean 58 = .ok (.invokevirtual 258, 3) := by decide +kernel
theorem dX10_mean_61 : decode cX10_mean 61 = .ok (.istore_n 3, 1) := by decide +kernel
theorem dX10_mean_62 : decode cX10_mean 62 = .ok (.aload_n 0, 1) := by decide +kernel
theorem dX10_mean_63 : decode cX10_mean 63 = .ok (.getfield 81, 3) := by decide +kernel
theorem dX10_mean_66 : decode cX10_mean 66 = .ok (.iconst (-1), 1) := by decide +kernel
theorem dX10_mean_67 : decode cX10_mean 67 = .ok (.if_icmp .eq 8, 3) := by decide +kernel
theorem dX10_mean_70 : decode cX10_mean 70 = .ok (.iload_n 3, 1) := by decide +kernel
theorem dX10_mean_71 : decode cX10_mean 71 = .ok (.iconst (-1), 1) := by decide +kernel
theorem dX10_mean_72 : decode cX10_mean 72 = .ok (.if_icmp .ne 5, 3) := by decide +kernel
theorem dX10_mean_75 : decode cX10_mean 75 = .ok (.iconst (-1), 1) := by decide +kernel
theorem dX10_mean_76 : decode cX10_mean 76 = .ok (.ireturn, 1) := by decide +kernel
theorem dX10_mean_77 : decode cX10_mean 77 = .ok (.iload_n 3, 1) := by decide +kernel
theorem dX10_mean_78 : decode cX10_mean 78 = .ok (.aload_n 0, 1) := by decide +kernel
theorem dX10_mean_79 : decode cX10_mean 79 = .ok (.getfield 81, 3) := by decide +kernel
theorem dX10_mean_82 : decode cX10_mean 82 = .ok (.if_icmp .gt 27, 3) := by decide +kernel
theorem dX10_mean_85 : decode cX10_mean 85 = .ok (.aload_n 0, 1) := by decide +kernel
theorem dX10_mean_86 : decode cX10_mean 86 = .ok (.getfield 81, 3) := by decide +kernel
theorem dX10_mean_89 : decode cX10_mean 89 = .ok (.aload_n 0, 1) := by decide +kernel
theorem dX10_mean_90 : decode cX10_mean 90 = .ok (.getfield 59, 3) := by decide +kernel
theorem dX10_mean_93 : decode cX10_mean 93 = .ok (.aload_n 0, 1) := by decide +kernel
theorem dX10_mean_94 : decode cX10_mean 94 = .ok (.getfield 21, 3) := by decide +kernel
theorem dX10_mean_97 : decode cX10_mean 97 = .ok (.iload_n 1, 1) := by decide +kernel
theorem dX10_mean_98 : decode cX10_mean 98 = .ok (.iconst 1, 1) := by decide +kernel
theorem dX10_mean_99 : decode cX10_mean 99 = .ok (.invokevirtual 258, 3) := by decide +kernel
theorem dX10_mean_102 : decode cX10_mean 102 = .ok (.if_icmp .gt 7, 3) := by decide +kernel
theorem dX10_mean_105 : decode cX10_mean 105 = .ok (.iconst 1, 1) := by decide +kernel
theorem dX10_mean_106 : decode cX10_mean 106 = .ok (.goto 4, 3) := by decide +kernel
theorem dX10_mean_109 : decode cX10_mean 109 = .ok (.iconst 0, 1) := by decide +kernel
theorem dX10_mean_110 : decode cX10_mean 110 = .ok (.ireturn, 1) := by decide +kernel
theorem dX10_paper_0 : decode cX10_paper 0 = .ok (.iload_n 1, 1) := by decide +kernel
theorem dX10_paper_1 : decode cX10_paper 1 = .ok (.iconst (-1), 1) := by decide +kernel
theorem dX10_paper_2 : decode cX10_paper 2 = .ok (.if_icmp .eq 14, 3) := by decide +kernel
theorem dX10_paper_5 : decode cX10_paper 5 = .ok (.iload_n 1, 1) := by decide +kernel
theorem dX10_paper_6 : decode cX10_paper 6 = .ok (.bipush 100, 2) := by decide +kernel
theorem dX10_paper_8 : decode cX10_paper 8 = .ok (.invokestatic 85, 3) := by decide +kernel
theorem dX10_paper_11 : decode cX10_paper 11 = .ok (.ifCond .ne 5, 3) := by decide +kernel
theorem dX10_paper_14 : decode cX10_paper 14 = .ok (.iconst 0, 1) := by decide +kernel
theorem dX10_paper_15 : decode cX10_paper 15 = .ok (.ireturn, 1) := by decide +kernel
theorem dX10_paper_16 : decode cX10_paper 16 = .ok (.aload_n 0, 1) := by decide +kernel
theorem dX10_paper_17 : decode cX10_paper 17 = .ok (.iload_n 1, 1) := by decide +kernel
theorem dX10_paper_18 : decode cX10_paper 18 = .ok (.putfield 81, 3) := by decide +kernel
theorem dX10_paper_21 : decode cX10_paper 21 = .ok (.iconst 1, 1) := by decide +kernel
theorem dX10_paper_22 : decode cX10_paper 22 = .ok (.ireturn, 1) := by decide +kernel
theorem dX10_place_0 : decode cX10_place 0 = .ok (.iload_n 2, 1) := by decide +kernel
theorem dX10_place_1 : decode cX10_place 1 = .ok (.iload_n 3, 1) := by decide +kernel
theorem dX10_place_2 : decode cX10_place 2 = .ok (.iload 4, 2) := by decide +kernel
theorem dX10_place_4 : decode cX10_place 4 = .ok (.invokestatic 96, 3) := by decide +kernel
theorem dX10_place_7 : decode cX10_place 7 = .ok (.istore 5, 2) := by decide +kernel
theorem dX10_place_9 : decode cX10_place 9 = .ok (.iload 5, 2) := by decide +kernel
theorem dX10_place_11 : decode cX10_place 11 = .ok (.iconst (-1), 1) := by decide +kernel
theorem dX10_place_12 : decode cX10_place 12 = .ok (.if_icmp .eq 20, 3) := by decide +kernel
theorem dX10_place_15 : decode cX10_place 15 = .ok (.aload_n 0, 1) := by decide +kernel
theorem dX10_place_16 : decode cX10_place 16 = .ok (.getfield 66, 3) := by decide +kernel
theorem dX10_place_19 : decode cX10_place 19 = .ok (.iload_n 1, 1) := by decide +kernel
theorem dX10_place_20 : decode cX10_place 20 = .ok (.iload 5, 2) := by decide +kernel
theorem dX10_place_22 : decode cX10_place 22 = .ok (.invokevirtual 262, 3) := by decide +kernel
theorem dX10_place_25 : decode cX10_place 25 = .ok (.ifCond .eq 7, 3) := by decide +kernel
theorem dX10_place_28 : decode cX10_place 28 = .ok (.iconst 1, 1) := by decide +kernel
theorem dX10_place_29 : decode cX10_place 29 = .ok (.goto 4, 3) := by decide +kernel
theorem dX10_place_32 : decode cX10_place 32 = .ok (.iconst 0, 1) := by decide +kernel
theorem dX10_place_33 : decode cX10_place 33 = .ok (.ireturn, 1) := by decide +kernel
theorem dX10_list_0 : decode cX10_list 0 = .ok (.aload_n 0, 1) := by decide +kernel
theorem dX10_list_1 : decode cX10_list 1 = .ok (.getfield 73, 3) := by decide +kernel
theorem dX10_list_4 : decode cX10_list 4 = .ok (.iload_n 1, 1) := by decide +kernel
theorem dX10_list_5 : decode cX10_list 5 = .ok (.iload_n 2, 1) := by decide +kernel
theorem dX10_list_6 : decode cX10_list 6 = .ok (.iload_n 3, 1) := by decide +kernel
theorem dX10_list_7 : decode cX10_list 7 = .ok (.iload 4, 2) := by decide +kernel
theorem dX10_list_9 : decode cX10_list 9 = .ok (.invokevirtual 302, 3) := by decide +kernel
theorem dX10_list_12 : decode cX10_list 12 = .ok (.ireturn, 1) := by decide +kernel
theorem dX10_risk_0 : decode cX10_risk 0 = .ok (.iload 4, 2) := by decide +kernel
theorem dX10_risk_2 : decode cX10_risk 2 = .ok (.iconst 2, 1) := by decide +kernel
theorem dX10_risk_3 : decode cX10_risk 3 = .ok (.if_icmp .ne 11, 3) := by decide +kernel
theorem dX10_risk_6 : decode cX10_risk 6 = .ok (.aload_n 0, 1) := by decide +kernel
theorem dX10_risk_7 : decode cX10_risk 7 = .ok (.getfield 73, 3) := by decide +kernel
theorem dX10_risk_10 : decode cX10_risk 10 = .ok (.invokevirtual 306, 3) := by decide +kernel
theorem dX10_risk_13 : decode cX10_risk 13 = .ok (.ireturn, 1) := by decide +kernel
theorem dX10_risk_14 : decode cX10_risk 14 = .ok (.iload 4, 2) := by decide +kernel
theorem dX10_risk_16 : decode cX10_risk 16 = .ok (.ifCond .eq 9, 3) := by decide +kernel
theorem dX10_risk_19 : decode cX10_risk 19 = .ok (.iload 4, 2) := by decide +kernel
theorem dX10_risk_21 : decode cX10_risk 21 = .ok (.iconst 1, 1) := by decide +kernel
theorem dX10_risk_22 : decode cX10_risk 22 = .ok (.if_icmp .ne 26, 3) := by decide +kernel
theorem dX10_risk_25 : decode cX10_risk 25 = .ok (.aload_n 0, 1) := by decide +kernel
theorem dX10_risk_26 : decode cX10_risk 26 = .ok (.getfield 73, 3) := by decide +kernel
theorem dX10_risk_29 : decode cX10_risk 29 = .ok (.iload_n 1, 1) := by decide +kernel
theorem dX10_risk_30 : decode cX10_risk 30 = .ok (.iload_n 2, 1) := by decide +kernel
theorem dX10_risk_31 : decode cX10_risk 31 = .ok (.iload_n 3, 1) := by decide +kernel
theorem dX10_risk_32 : decode cX10_risk 32 = .ok (.iload 4, 2) := by decide +kernel
theorem dX10_risk_34 : decode cX10_risk 34 = .ok (.ifCond .ne 7, 3) := by decide +kernel
theorem dX10_risk_37 : decode cX10_risk 37 = .ok (.iconst 1, 1) := by decide +kernel
theorem dX10_risk_38 : decode cX10_risk 38 = .ok (.goto 4, 3) := by decide +kernel
theorem dX10_risk_41 : decode cX10_risk 41 = .ok (.iconst 0, 1) := by decide +kernel
theorem dX10_risk_42 : decode cX10_risk 42 = .ok (.invokevirtual 309, 3) := by decide +kernel
theorem dX10_risk_45 : decode cX10_risk 45 = .ok (.goto 4, 3) := by decide +kernel
theorem dX10_risk_48 : decode cX10_risk 48 = .ok (.iconst (-1), 1) := by decide +kernel
theorem dX10_risk_49 : decode cX10_risk 49 = .ok (.istore 5, 2) := by decide +kernel
theorem dX10_risk_51 : decode cX10_risk 51 = .ok (.iload 5, 2) := by decide +kernel
theorem dX10_risk_53 : decode cX10_risk 53 = .ok (.iconst (-1), 1) := by decide +kernel
theorem dX10_risk_54 : decode cX10_risk 54 = .ok (.if_icmp .ne 7, 3) := by decide +kernel
theorem dX10_risk_57 : decode cX10_risk 57 = .ok (.iconst (-1), 1) := by decide +kernel
theorem dX10_risk_58 : decode cX10_risk 58 = .ok (.goto 10, 3) := by decide +kernel
theorem dX10_risk_61 : decode cX10_risk 61 = .ok (.iload 5, 2) := by decide +kernel
theorem dX10_risk_63 : decode cX10_risk 63 = .ok (.iconst 1, 1) := by decide +kernel
theorem dX10_risk_64 : decode cX10_risk 64 = .ok (.iadd, 1) := by decide +kernel
theorem dX10_risk_65 : decode cX10_risk 65 = .ok (.iload 4, 2) := by decide +kernel
theorem dX10_risk_67 : decode cX10_risk 67 = .ok (.iadd, 1) := by decide +kernel
theorem dX10_risk_68 : decode cX10_risk 68 = .ok (.ireturn, 1) := by decide +kernel
theorem dX11_split_0 : decode cX11_split 0 = .ok (.aload_n 0, 1) := by decide +kernel
theorem dX11_split_1 : decode cX11_split 1 = .ok (.iconst 0, 1) := by decide +kernel
theorem dX11_split_2 : decode cX11_split 2 = .ok (.putfield 141, 3) := by decide +kernel
theorem dX11_split_5 : decode cX11_split 5 = .ok (.aload_n 0, 1) := by decide +kernel
theorem dX11_split_6 : decode cX11_split 6 = .ok (.iload_n 1, 1) := by decide +kernel
theorem dX11_split_7 : decode cX11_split 7 = .ok (.iconst 0, 1) := by decide +kernel
theorem dX11_split_8 : decode cX11_split 8 = .ok (.sipush 144, 3) := by decide +kernel
theorem dX11_split_11 : decode cX11_split 11 = .ok (.invokevirtual 144, 3) := by decide +kernel
theorem dX11_split_14 : decode cX11_split 14 = .ok (.ifCond .eq 13, 3) := by decide +kernel
theorem dX11_split_17 : decode cX11_split 17 = .ok (.aload_n 0, 1) := by decide +kernel
theorem dX11_split_18 : decode cX11_split 18 = .ok (.iload_n 2, 1) := by decide +kernel
theorem dX11_split_19 : decode cX11_split 19 = .ok (.iconst 0, 1) := by decide +kernel
theorem dX11_split_20 : decode cX11_split 20 = .ok (.iconst 4, 1) := by decide +kernel
theorem dX11_split_21 : decode cX11_split 21 = .ok (.invokevirtual 144, 3) := by decide +kernel
theorem dX11_split_24 : decode cX11_split 24 = .ok (.ifCond .ne 5, 3) := by decide +kernel
theorem dX11_split_27 : decode cX11_split 27 = .ok (.iconst (-1), 1) := by decide +kernel
theorem dX11_split_28 : decode cX11_split 28 = .ok (.ireturn, 1) := by decide +kernel
theorem dX11_split_29 : decode cX11_split 29 = .ok (.iconst (-1), 1) := by decide +kernel
theorem dX11_split_30 : decode cX11_split 30 = .ok (.istore_n 3, 1) := by decide +kernel
theorem dX11_split_31 : decode cX11_split 31 = .ok (.iconst 0, 1) := by decide +kernel
theorem dX11_split_32 : decode cX11_split 32 = .ok (.istore 4, 2) := by decide +kernel
theorem dX11_split_34 : decode cX11_split 34 = .ok (.iconst 0, 1) := by decide +kernel
theorem dX11_split_35 : decode cX11_split 35 = .ok (.istore 5, 2) := by decide +kernel
theorem dX11_split_37 : decode cX11_split 37 = .ok (.iload 5, 2) := by decide +kernel
theorem dX11_split_39 : decode cX11_split 39 = .ok (.bipush 36, 2) := by decide +kernel
theorem dX11_split_41 : decode cX11_split 41 = .ok (.if_icmp .gt 149, 3) := by decide +kernel
theorem dX11_split_44 : decode cX11_split 44 = .ok (.iconst 0, 1) := by decide +kernel
theorem dX11_split_45 : decode cX11_split 45 = .ok (.istore 6, 2) := by decide +kernel
theorem dX11_split_47 : decode cX11_split 47 = .ok (.iload 6, 2) := by decide +kernel
theorem dX11_split_49 : decode cX11_split 49 = .ok (.bipush 36, 2) := by decide +kernel
theorem dX11_split_51 : decode cX11_split 51 = .ok (.if_icmp .gt 133, 3) := by decide +kernel
theorem dX11_split_54 : decode cX11_split 54 = .ok (.iconst 0, 1) := by decide +kernel
theorem dX11_split_55 : decode cX11_split 55 = .ok (.istore 7, 2) := by decide +kernel
theorem dX11_split_57 : decode cX11_split 57 = .ok (.iload 7, 2) := by decide +kernel
theorem dX11_split_59 : decode cX11_split 59 = .ok (.bipush 36, 2) := by decide +kernel
theorem dX11_split_61 : decode cX11_split 61 = .ok (.if_icmp .gt 117, 3) := by decide +kernel
theorem dX11_split_64 : decode cX11_split 64 = .ok (.iload_n 1, 1) := by decide +kernel
theorem dX11_split_65 : decode cX11_split 65 = .ok (.iload 5, 2) := by decide +kernel
theorem dX11_split_67 : decode cX11_split 67 = .ok (.isub, 1) := by decide +kernel
theorem dX11_split_68 : decode cX11_split 68 = .ok (.iload 6, 2) := by decide +kernel
theorem dX11_split_70 : decode cX11_split 70 = .ok (.isub, 1) := by decide +kernel
theorem dX11_split_71 : decode cX11_split 71 = .ok (.iload 7, 2) := by decide +kernel
theorem dX11_split_73 : decode cX11_split 73 = .ok (.isub, 1) := by decide +kernel
theorem dX11_split_74 : decode cX11_split 74 = .ok (.istore 8, 2) := by decide +kernel
theorem dX11_split_76 : decode cX11_split 76 = .ok (.aload_n 0, 1) := by decide +kernel
theorem dX11_split_77 : decode cX11_split 77 = .ok (.iload 8, 2) := by decide +kernel
theorem dX11_split_79 : decode cX11_split 79 = .ok (.iconst 0, 1) := by decide +kernel
theorem dX11_split_80 : decode cX11_split 80 = .ok (.bipush 36, 2) := by decide +kernel
theorem dX11_split_82 : decode cX11_split 82 = .ok (.invokevirtual 144, 3) := by decide +kernel
theorem dX11_split_85 : decode cX11_split 85 = .ok (.ifCond .ne 6, 3) := by decide +kernel
theorem dX11_split_88 : decode cX11_split 88 = .ok (.goto 84, 3) := by decide +kernel
theorem dX11_split_91 : decode cX11_split 91 = .ok (.aload_n 0, 1) := by decide +kernel
theorem dX11_split_92 : decode cX11_split 92 = .ok (.iload 5, 2) := by decide +kernel
theorem dX11_split_94 : decode cX11_split 94 = .ok (.invokevirtual 356, 3) := by decide +kernel
theorem dX11_split_97 : decode cX11_split 97 = .ok (.aload_n 0, 1) := by decide +kernel
theorem dX11_split_98 : decode cX11_split 98 = .ok (.iload 6, 2) := by decide +kernel
theorem dX11_split_100 : decode cX11_split 100 = .ok (.invokevirtual 356, 3) := by decide +kernel
theorem dX11_split_103 : decode cX11_split 103 = .ok (.iadd, 1) := by decide +kernel
theorem dX11_split_104 : decode cX11_split 104 = .ok (.aload_n 0, 1) := by decide +kernel
theorem dX11_split_105 : decode cX11_split 105 = .ok (.iload 7, 2) := by decide +kernel
theorem dX11_split_107 : decode cX11_split 107 = .ok (.invokevirtual 356, 3) := by decide +kernel
theorem dX11_split_110 : decode cX11_split 110 = .ok (.iadd, 1) := by decide +kernel
theorem dX11_split_111 : decode cX11_split 111 = .ok (.aload_n 0, 1) := by decide +kernel
theorem dX11_split_112 : decode cX11_split 112 = .ok (.iload 8, 2) := by decide +kernel
theorem dX11_split_114 : decode cX11_split 114 = .ok (.invokevirtual 356, 3) := by decide +kernel
theorem dX11_split_117 : decode cX11_split 117 = .ok (.iadd, 1) := by decide +kernel
theorem dX11_split_118 : decode cX11_split 118 = .ok (.istore 9, 2) := by decide +kernel
theorem dX11_split_120 : decode cX11_split 120 = .ok (.iload 4, 2) := by decide +kernel
theorem dX11_split_122 : decode cX11_split 122 = .ok (.ifCond .eq 12, 3) := by decide +kernel
theorem dX11_split_125 : decode cX11_split 125 = .ok (.iload 9, 2) := by decide +kernel
theorem dX11_split_127 : decode cX11_split 127 = .ok (.iload_n 3, 1) := by decide +kernel
theorem dX11_split_128 : decode cX11_split 128 = .ok (.if_icmp .lt 6, 3) := by decide +kernel
theorem dX11_split_131 : decode cX11_split 131 = .ok (.goto 41, 3) := by decide +kernel
theorem dX11_split_134 : decode cX11_split 134 = .ok (.iconst 1, 1) := by decide +kernel
theorem dX11_split_135 : decode cX11_split 135 = .ok (.istore 4, 2) := by decide +kernel
theorem dX11_split_137 : decode cX11_split 137 = .ok (.iload 9, 2) := by decide +kernel
theorem dX11_split_139 : decode cX11_split 139 = .ok (.istore_n 3, 1) := by decide +kernel
theorem dX11_split_140 : decode cX11_split 140 = .ok (.aload_n 0, 1) := by decide +kernel
theorem dX11_split_141 : decode cX11_split 141 = .ok (.getfield 99, 3) := by decide +kernel
theorem dX11_split_144 : decode cX11_split 144 = .ok (.iconst 0, 1) := by decide +kernel
theorem dX11_split_145 : decode cX11_split 145 = .ok (.iload 5, 2) := by decide +kernel
theorem dX11_split_147 : decode cX11_split 147 = .ok (.iastore, 1) := by decide +kernel
theorem dX11_split_148 : decode cX11_split 148 = .ok (.aload_n 0, 1) := by decide +kernel
theorem dX11_split_149 : decode cX11_split 149 = .ok (.getfield 99, 3) := by decide +kernel
theorem dX11_split_152 : decode cX11_split 152 = .ok (.iconst 1, 1) := by decide +kernel
theorem dX11_split_153 : decode cX11_split 153 = .ok (.iload 6, 2) := by decide +kernel
theorem dX11_split_155 : decode cX11_split 155 = .ok (.iastore, 1) := by decide +kernel
theorem dX11_split_156 : decode cX11_split 156 = .ok (.aload_n 0, 1) := by decide +kernel
theorem dX11_split_157 : decode cX11_split 157 = .ok (.getfield 99, 3) := by decide +kernel
theorem dX11_split_160 : decode cX11_split 160 = .ok (.iconst 2, 1) := by decide +kernel
theorem dX11_split_161 : decode cX11_split 161 = .ok (.iload 7, 2) := by decide +kernel
theorem dX11_split_163 : decode cX11_split 163 = .ok (.iastore, 1) := by decide +kernel
theorem dX11_split_164 : decode cX11_split 164 = .ok (.aload_n 0, 1) := by decide +kernel
theorem dX11_split_165 : decode cX11_split 165 = .ok (.getfield 99, 3) := by decide +kernel
theorem dX11_split_168 : decode cX11_split 168 = .ok (.iconst 3, 1) := by decide +kernel
theorem dX11_split_169 : decode cX11_split 169 = .ok (.iload 8, 2) := by decide +kernel
theorem dX11_split_171 : decode cX11_split 171 = .ok (.iastore, 1) := by decide +kernel
theorem dX11_split_172 : decode cX11_split 172 = .ok (.iinc 7 1, 3) := by decide +kernel
theorem dX11_split_175 : decode cX11_split 175 = .ok (.goto (-118), 3) := by decide +kernel
theorem dX11_split_178 : decode cX11_split 178 = .ok (.iinc 6 1, 3) := by decide +kernel
theorem dX11_split_181 : decode cX11_split 181 = .ok (.goto (-134), 3) := by decide +kernel
theorem dX11_split_184 : decode cX11_split 184 = .ok (.iinc 5 1, 3) := by decide +kernel
theorem dX11_split_187 : decode cX11_split 187 = .ok (.goto (-150), 3) := by decide +kernel
theorem dX11_split_190 : decode cX11_split 190 = .ok (.iload_n 2, 1) := by decide +kernel
theorem dX11_split_191 : decode cX11_split 191 = .ok (.ifCond .ne 7, 3) := by decide +kernel
theorem dX11_split_194 : decode cX11_split 194 = .ok (.iload_n 3, 1) := by decide +kernel
theorem dX11_split_195 : decode cX11_split 195 = .ok (.goto 11, 3) := by decide +kernel
theorem dX11_split_198 : decode cX11_split 198 = .ok (.aload_n 0, 1) := by decide +kernel
theorem dX11_split_199 : decode cX11_split 199 = .ok (.getfield 99, 3) := by decide +kernel
theorem dX11_split_202 : decode cX11_split 202 = .ok (.iload_n 2, 1) := by decide +kernel
theorem dX11_split_203 : decode cX11_split 203 = .ok (.iconst 1, 1) := by decide +kernel
theorem dX11_split_204 : decode cX11_split 204 = .ok (.isub, 1) := by decide +kernel
theorem dX11_split_205 : decode cX11_split 205 = .ok (.iaload, 1) := by decide +kernel
theorem dX11_split_206 : decode cX11_split 206 = .ok (.ireturn, 1) := by decide +kernel
theorem dX1_someLine_0 : decode cX1_someLine 0 = .ok (.iconst 0, 1) := by decide +kernel
theorem dX1_someLine_1 : decode cX1_someLine 1 = .ok (.istore_n 3, 1) := by decide +kernel
theorem dX1_someLine_2 : decode cX1_someLine 2 = .ok (.iload_n 3, 1) := by decide +kernel
theorem dX1_someLine_3 : decode cX1_someLine 3 = .ok (.aload_n 0, 1) := by decide +kernel
theorem dX1_someLine_4 : decode cX1_someLine 4 = .ok (.getfield 12, 3) := by decide +kernel
theorem dX1_someLine_7 : decode cX1_someLine 7 = .ok (.getfield 28, 3) := by decide +kernel
theorem dX1_someLine_10 : decode cX1_someLine 10 = .ok (.if_icmp .ge 50, 3) := by decide +kernel
theorem dX1_someLine_13 : decode cX1_someLine 13 = .ok (.aload_n 0, 1) := by decide +kernel
theorem dX1_someLine_14 : decode cX1_someLine 14 = .ok (.getfield 12, 3) := by decide +kernel
theorem dX1_someLine_17 : decode cX1_someLine 17 = .ok (.iload_n 3, 1) := by decide +kernel
theorem dX1_someLine_18 : decode cX1_someLine 18 = .ok (.iload_n 1, 1) := by decide +kernel
theorem dX1_someLine_19 : decode cX1_someLine 19 = .ok (.invokevirtual 32, 3) := by decide +kernel
theorem dX1_someLine_22 : decode cX1_someLine 22 = .ok (.ifCond .eq 32, 3) := by decide +kernel
theorem dX1_someLine_25 : decode cX1_someLine 25 = .ok (.aload_n 0, 1) := by decide +kernel
theorem dX1_someLine_26 : decode cX1_someLine 26 = .ok (.getfield 12, 3) := by decide +kernel
theorem dX1_someLine_29 : decode cX1_someLine 29 = .ok (.iload_n 3, 1) := by decide +kernel
theorem dX1_someLine_30 : decode cX1_someLine 30 = .ok (.iload_n 2, 1) := by decide +kernel
theorem dX1_someLine_31 : decode cX1_someLine 31 = .ok (.invokevirtual 36, 3) := by decide +kernel
theorem dX1_someLine_34 : decode cX1_someLine 34 = .ok (.ifCond .eq 20, 3) := by decide +kernel
theorem dX1_someLine_37 : decode cX1_someLine 37 = .ok (.aload_n 0, 1) := by decide +kernel
theorem dX1_someLine_38 : decode cX1_someLine 38 = .ok (.getfield 12, 3) := by decide +kernel
theorem dX1_someLine_41 : decode cX1_someLine 41 = .ok (.iload_n 3, 1) := by decide +kernel
theorem dX1_someLine_42 : decode cX1_someLine 42 = .ok (.aload_n 0, 1) := by decide +kernel
theorem dX1_someLine_43 : decode cX1_someLine 43 = .ok (.getfield 25, 3) := by decide +kernel
theorem dX1_someLine_46 : decode cX1_someLine 46 = .ok (.invokevirtual 39, 3) := by decide +kernel
theorem dX1_someLine_49 : decode cX1_someLine 49 = .ok (.ifCond .eq 5, 3) := by decide +kernel
theorem dX1_someLine_52 : decode cX1_someLine 52 = .ok (.iconst 1, 1) := by decide +kernel
theorem dX1_someLine_53 : decode cX1_someLine 53 = .ok (.ireturn, 1) := by decide +kernel
theorem dX1_someLine_54 : decode cX1_someLine 54 = .ok (.iinc 3 1, 3) := by decide +kernel
theorem dX1_someLine_57 : decode cX1_someLine 57 = .ok (.goto (-55), 3) := by decide +kernel
theorem dX1_someLine_60 : decode cX1_someLine 60 = .ok (.iconst 0, 1) := by decide +kernel
theorem dX1_someLine_61 : decode cX1_someLine 61 = .ok (.ireturn, 1) := by decide +kernel
theorem dX1_findWaysOf_0 : decode cX1_findWaysOf 0 = .ok (.iconst 0, 1) := by decide +kernel
theorem dX1_findWaysOf_1 : decode cX1_findWaysOf 1 = .ok (.istore_n 3, 1) := by decide +kernel
theorem dX1_findWaysOf_2 : decode cX1_findWaysOf 2 = .ok (.iload_n 3, 1) := by decide +kernel
theorem dX1_findWaysOf_3 : decode cX1_findWaysOf 3 = .ok (.bipush 10, 2) := by decide +kernel
theorem dX1_findWaysOf_5 : decode cX1_findWaysOf 5 = .ok (.if_icmp .ge 96, 3) := by decide +kernel
theorem dX1_findWaysOf_8 : decode cX1_findWaysOf 8 = .ok (.iconst 0, 1) := by decide +kernel
theorem dX1_findWaysOf_9 : decode cX1_findWaysOf 9 = .ok (.istore 4, 2) := by decide +kernel
theorem dX1_findWaysOf_11 : decode cX1_findWaysOf 11 = .ok (.iload 4, 2) := by decide +kernel
theorem dX1_findWaysOf_13 : decode cX1_findWaysOf 13 = .ok (.bipush 10, 2) := by decide +kernel
theorem dX1_findWaysOf_15 : decode cX1_findWaysOf 15 = .ok (.if_icmp .ge 80, 3) := by decide +kernel
theorem dX1_findWaysOf_18 : decode cX1_findWaysOf 18 = .ok (.aload_n 0, 1) := by decide +kernel
theorem dX1_findWaysOf_19 : decode cX1_findWaysOf 19 = .ok (.iload_n 1, 1) := by decide +kernel
theorem dX1_findWaysOf_20 : decode cX1_findWaysOf 20 = .ok (.iload_n 2, 1) := by decide +kernel
theorem dX1_findWaysOf_21 : decode cX1_findWaysOf 21 = .ok (.iload_n 3, 1) := by decide +kernel
theorem dX1_findWaysOf_22 : decode cX1_findWaysOf 22 = .ok (.iload 4, 2) := by decide +kernel
theorem dX1_findWaysOf_24 : decode cX1_findWaysOf 24 = .ok (.invokevirtual 55, 3) := by decide +kernel
theorem dX1_findWaysOf_27 : decode cX1_findWaysOf 27 = .ok (.aload_n 0, 1) := by decide +kernel
theorem dX1_findWaysOf_28 : decode cX1_findWaysOf 28 = .ok (.iconst 0, 1) := by decide +kernel
theorem dX1_findWaysOf_29 : decode cX1_findWaysOf 29 = .ok (.iconst (-1), 1) := by decide +kernel
theorem dX1_findWaysOf_30 : decode cX1_findWaysOf 30 = .ok (.invokevirtual 58, 3) := by decide +kernel
theorem dX1_findWaysOf_33 : decode cX1_findWaysOf 33 = .ok (.ifCond .eq 56, 3) := by decide +kernel
theorem dX1_findWaysOf_36 : decode cX1_findWaysOf 36 = .ok (.aload_n 0, 1) := by decide +kernel
theorem dX1_findWaysOf_37 : decode cX1_findWaysOf 37 = .ok (.iconst 1, 1) := by decide +kernel
theorem dX1_findWaysOf_38 : decode cX1_findWaysOf 38 = .ok (.iconst (-1), 1) := by decide +kernel
theorem dX1_findWaysOf_39 : decode cX1_findWaysOf 39 = .ok (.invokevirtual 58, 3) := by decide +kernel
theorem dX1_findWaysOf_42 : decode cX1_findWaysOf 42 = .ok (.ifCond .ne 47, 3) := by decide +kernel
theorem dX1_findWaysOf_45 : decode cX1_findWaysOf 45 = .ok (.aload_n 0, 1) := by decide +kernel
theorem dX1_findWaysOf_46 : decode cX1_findWaysOf 46 = .ok (.getfield 18, 3) := by decide +kernel
theorem dX1_findWaysOf_49 : decode cX1_findWaysOf 49 = .ok (.iload_n 2, 1) := by decide +kernel
theorem dX1_findWaysOf_50 : decode cX1_findWaysOf 50 = .ok (.dup2, 1) := by decide +kernel
theorem dX1_findWaysOf_51 : decode cX1_findWaysOf 51 = .ok (.iaload, 1) := by decide +kernel
theorem dX1_findWaysOf_52 : decode cX1_findWaysOf 52 = .ok (.iconst 1, 1) := by decide +kernel
theorem dX1_findWaysOf_53 : decode cX1_findWaysOf 53 = .ok (.iadd, 1) := by decide +kernel
theorem dX1_findWaysOf_54 : decode cX1_findWaysOf 54 = .ok (.iastore, 1) := by decide +kernel
theorem dX1_findWaysOf_55 : decode cX1_findWaysOf 55 = .ok (.aload_n 0, 1) := by decide +kernel
theorem dX1_findWaysOf_56 : decode cX1_findWaysOf 56 = .ok (.getfield 22, 3) := by decide +kernel
theorem dX1_findWaysOf_59 : decode cX1_findWaysOf 59 = .ok (.iload_n 2, 1) := by decide +kernel
theorem dX1_findWaysOf_60 : decode cX1_findWaysOf 60 = .ok (.iaload, 1) := by decide +kernel
theorem dX1_findWaysOf_61 : decode cX1_findWaysOf 61 = .ok (.iconst (-1), 1) := by decide +kernel
theorem dX1_findWaysOf_62 : decode cX1_findWaysOf 62 = .ok (.if_icmp .ne 27, 3) := by decide +kernel
theorem dX1_findWaysOf_65 : decode cX1_findWaysOf 65 = .ok (.aload_n 0, 1) := by decide +kernel
theorem dX1_findWaysOf_66 : decode cX1_findWaysOf 66 = .ok (.getfield 22, 3) := by decide +kernel
theorem dX1_findWaysOf_69 : decode cX1_findWaysOf 69 = .ok (.iload_n 2, 1) := by decide +kernel
theorem dX1_findWaysOf_70 : decode cX1_findWaysOf 70 = .ok (.ldc 61, 2) := by decide +kernel
theorem dX1_findWaysOf_72 : decode cX1_findWaysOf 72 = .ok (.iload_n 1, 1) := by decide +kernel
theorem dX1_findWaysOf_73 : decode cX1_findWaysOf 73 = .ok (.imul, 1) := by decide +kernel
theorem dX1_findWaysOf_74 : decode cX1_findWaysOf 74 = .ok (.sipush 10000, 3) := by decide +kernel
theorem dX1_findWaysOf_77 : decode cX1_findWaysOf 77 = .ok (.iload_n 2, 1) := by decide +kernel
theorem dX1_findWaysOf_78 : decode cX1_findWaysOf 78 = .ok (.imul, 1) := by decide +kernel
theorem dX1_findWaysOf_79 : decode cX1_findWaysOf 79 = .ok (.iadd, 1) := by decide +kernel
theorem dX1_findWaysOf_80 : decode cX1_findWaysOf 80 = .ok (.bipush 100, 2) := by decide +kernel
theorem dX1_findWaysOf_82 : decode cX1_findWaysOf 82 = .ok (.iload_n 3, 1) := by decide +kernel
theorem dX1_findWaysOf_83 : decode cX1_findWaysOf 83 = .ok (.imul, 1) := by decide +kernel
theorem dX1_findWaysOf_84 : decode cX1_findWaysOf 84 = .ok (.iadd, 1) := by decide +kernel
theorem dX1_findWaysOf_85 : decode cX1_findWaysOf 85 = .ok (.iload 4, 2) := by decide +kernel
theorem dX1_findWaysOf_87 : decode cX1_findWaysOf 87 = .ok (.iadd, 1) := by decide +kernel
theorem dX1_findWaysOf_88 : decode cX1_findWaysOf 88 = .ok (.iastore, 1) := by decide +kernel
theorem dX1_findWaysOf_89 : decode cX1_findWaysOf 89 = .ok (.iinc 4 1, 3) := by decide +kernel
theorem dX1_findWaysOf_92 : decode cX1_findWaysOf 92 = .ok (.goto (-81), 3) := by decide +kernel
theorem dX1_findWaysOf_95 : decode cX1_findWaysOf 95 = .ok (.iinc 3 1, 3) := by decide +kernel
theorem dX1_findWaysOf_98 : decode cX1_findWaysOf 98 = .ok (.goto (-96), 3) := by decide +kernel
theorem dX1_findWaysOf_101 : decode cX1_findWaysOf 101 = .ok (.return_, 1) := by decide +kernel
theorem dX2_comesTo_0 : decode cX2_comesTo 0 = .ok (.iconst 0, 1) := by decide +kernel
theorem dX2_comesTo_1 : decode cX2_comesTo 1 = .ok (.istore_n 2, 1) := by decide +kernel
theorem dX2_comesTo_2 : decode cX2_comesTo 2 = .ok (.iload_n 2, 1) := by decide +kernel
theorem dX2_comesTo_3 : decode cX2_comesTo 3 = .ok (.aload_n 0, 1) := by decide +kernel
theorem dX2_comesTo_4 : decode cX2_comesTo 4 = .ok (.getfield 10, 3) := by decide +kernel
theorem dX2_comesTo_7 : decode cX2_comesTo 7 = .ok (.getfield 24, 3) := by decide +kernel
theorem dX2_comesTo_10 : decode cX2_comesTo 10 = .ok (.if_icmp .ge 49, 3) := by decide +kernel
theorem dX2_comesTo_13 : decode cX2_comesTo 13 = .ok (.aload_n 0, 1) := by decide +kernel
theorem dX2_comesTo_14 : decode cX2_comesTo 14 = .ok (.getfield 10, 3) := by decide +kernel
theorem dX2_comesTo_17 : decode cX2_comesTo 17 = .ok (.iload_n 2, 1) := by decide +kernel
theorem dX2_comesTo_18 : decode cX2_comesTo 18 = .ok (.iload_n 1, 1) := by decide +kernel
theorem dX2_comesTo_19 : decode cX2_comesTo 19 = .ok (.invokevirtual 27, 3) := by decide +kernel
theorem dX2_comesTo_22 : decode cX2_comesTo 22 = .ok (.ifCond .eq 31, 3) := by decide +kernel
theorem dX2_comesTo_25 : decode cX2_comesTo 25 = .ok (.aload_n 0, 1) := by decide +kernel
theorem dX2_comesTo_26 : decode cX2_comesTo 26 = .ok (.getfield 10, 3) := by decide +kernel
theorem dX2_comesTo_29 : decode cX2_comesTo 29 = .ok (.iload_n 2, 1) := by decide +kernel
theorem dX2_comesTo_30 : decode cX2_comesTo 30 = .ok (.aload_n 0, 1) := by decide +kernel
theorem dX2_comesTo_31 : decode cX2_comesTo 31 = .ok (.getfield 16, 3) := by decide +kernel
theorem dX2_comesTo_34 : decode cX2_comesTo 34 = .ok (.invokevirtual 31, 3) := by decide +kernel
theorem dX2_comesTo_37 : decode cX2_comesTo 37 = .ok (.ifCond .eq 16, 3) := by decide +kernel
theorem dX2_comesTo_40 : decode cX2_comesTo 40 = .ok (.aload_n 0, 1) := by decide +kernel
theorem dX2_comesTo_41 : decode cX2_comesTo 41 = .ok (.getfield 10, 3) := by decide +kernel
theorem dX2_comesTo_44 : decode cX2_comesTo 44 = .ok (.iload_n 2, 1) := by decide +kernel
theorem dX2_comesTo_45 : decode cX2_comesTo 45 = .ok (.aload_n 0, 1) := by decide +kernel
theorem dX2_comesTo_46 : decode cX2_comesTo 46 = .ok (.getfield 16, 3) := by decide +kernel
theorem dX2_comesTo_49 : decode cX2_comesTo 49 = .ok (.invokevirtual 35, 3) := by decide +kernel
theorem dX2_comesTo_52 : decode cX2_comesTo 52 = .ok (.ireturn, 1) := by decide +kernel
theorem dX2_comesTo_53 : decode cX2_comesTo 53 = .ok (.iinc 2 1, 3) := by decide +kernel
theorem dX2_comesTo_56 : decode cX2_comesTo 56 = .ok (.goto (-54), 3) := by decide +kernel
theorem dX2_comesTo_59 : decode cX2_comesTo 59 = .ok (.iconst 0, 1) := by decide +kernel
theorem dX2_comesTo_60 : decode cX2_comesTo 60 = .ok (.ireturn, 1) := by decide +kernel
theorem dX3_fewest_0 : decode cX3_fewest 0 = .ok (.aload_n 0, 1) := by decide +kernel
theorem dX3_fewest_1 : decode cX3_fewest 1 = .ok (.aload_n 1, 1) := by decide +kernel
theorem dX3_fewest_2 : decode cX3_fewest 2 = .ok (.iload_n 2, 1) := by decide +kernel
theorem dX3_fewest_3 : decode cX3_fewest 3 = .ok (.invokevirtual 23, 3) := by decide +kernel
theorem dX3_fewest_6 : decode cX3_fewest 6 = .ok (.iconst (-1), 1) := by decide +kernel
theorem dX3_fewest_7 : decode cX3_fewest 7 = .ok (.istore_n 3, 1) := by decide +kernel
theorem dX3_fewest_8 : decode cX3_fewest 8 = .ok (.iconst 0, 1) := by decide +kernel
theorem dX3_fewest_9 : decode cX3_fewest 9 = .ok (.istore 4, 2) := by decide +kernel
theorem dX3_fewest_11 : decode cX3_fewest 11 = .ok (.iload 4, 2) := by decide +kernel
theorem dX3_fewest_13 : decode cX3_fewest 13 = .ok (.sipush 256, 3) := by decide +kernel
theorem dX3_fewest_16 : decode cX3_fewest 16 = .ok (.if_icmp .ge 50, 3) := by decide +kernel
theorem dX3_fewest_19 : decode cX3_fewest 19 = .ok (.iload_n 3, 1) := by decide +kernel
theorem dX3_fewest_20 : decode cX3_fewest 20 = .ok (.iconst (-1), 1) := by decide +kernel
theorem dX3_fewest_21 : decode cX3_fewest 21 = .ok (.if_icmp .eq 15, 3) := by decide +kernel
theorem dX3_fewest_24 : decode cX3_fewest 24 = .ok (.iload 4, 2) := by decide +kernel
theorem dX3_fewest_26 : decode cX3_fewest 26 = .ok (.invokestatic 27, 3) := by decide +kernel
theorem dX3_fewest_29 : decode cX3_fewest 29 = .ok (.iload_n 3, 1) := by decide +kernel
theorem dX3_fewest_30 : decode cX3_fewest 30 = .ok (.invokestatic 27, 3) := by decide +kernel
theorem dX3_fewest_33 : decode cX3_fewest 33 = .ok (.if_icmp .ge 7, 3) := by decide +kernel
theorem dX3_fewest_36 : decode cX3_fewest 36 = .ok (.iconst 1, 1) := by decide +kernel
theorem dX3_fewest_37 : decode cX3_fewest 37 = .ok (.goto 4, 3) := by decide +kernel
theorem dX3_fewest_40 : decode cX3_fewest 40 = .ok (.iconst 0, 1) := by decide +kernel
theorem dX3_fewest_41 : decode cX3_fewest 41 = .ok (.istore 5, 2) := by decide +kernel
theorem dX3_fewest_43 : decode cX3_fewest 43 = .ok (.iload 5, 2) := by decide +kernel
theorem dX3_fewest_45 : decode cX3_fewest 45 = .ok (.ifCond .eq 15, 3) := by decide +kernel
theorem dX3_fewest_48 : decode cX3_fewest 48 = .ok (.aload_n 0, 1) := by decide +kernel
theorem dX3_fewest_49 : decode cX3_fewest 49 = .ok (.iload 4, 2) := by decide +kernel
theorem dX3_fewest_51 : decode cX3_fewest 51 = .ok (.invokevirtual 33, 3) := by decide +kernel
theorem dX3_fewest_54 : decode cX3_fewest 54 = .ok (.ifCond .eq 6, 3) := by decide +kernel
theorem dX3_fewest_57 : decode cX3_fewest 57 = .ok (.iload 4, 2) := by decide +kernel
theorem dX3_fewest_59 : decode cX3_fewest 59 = .ok (.istore_n 3, 1) := by decide +kernel
theorem dX3_fewest_60 : decode cX3_fewest 60 = .ok (.iinc 4 1, 3) := by decide +kernel
theorem dX3_fewest_63 : decode cX3_fewest 63 = .ok (.goto (-52), 3) := by decide +kernel
theorem dX3_fewest_66 : decode cX3_fewest 66 = .ok (.iload_n 3, 1) := by decide +kernel
theorem dX3_fewest_67 : decode cX3_fewest 67 = .ok (.ireturn, 1) := by decide +kernel
theorem dX4_sum_0 : decode cX4_sum 0 = .ok (.iconst (-1), 1) := by decide +kernel
theorem dX4_sum_1 : decode cX4_sum 1 = .ok (.istore_n 1, 1) := by decide +kernel
theorem dX4_sum_2 : decode cX4_sum 2 = .ok (.iconst 0, 1) := by decide +kernel
theorem dX4_sum_3 : decode cX4_sum 3 = .ok (.istore_n 2, 1) := by decide +kernel
theorem dX4_sum_4 : decode cX4_sum 4 = .ok (.iconst 0, 1) := by decide +kernel
theorem dX4_sum_5 : decode cX4_sum 5 = .ok (.istore_n 3, 1) := by decide +kernel
theorem dX4_sum_6 : decode cX4_sum 6 = .ok (.iload_n 3, 1) := by decide +kernel
theorem dX4_sum_7 : decode cX4_sum 7 = .ok (.sipush 600, 3) := by decide +kernel
theorem dX4_sum_10 : decode cX4_sum 10 = .ok (.if_icmp .gt 104, 3) := by decide +kernel
theorem dX4_sum_13 : decode cX4_sum 13 = .ok (.aload_n 0, 1) := by decide +kernel
theorem dX4_sum_14 : decode cX4_sum 14 = .ok (.invokevirtual 148, 3) := by decide +kernel
theorem dX4_sum_17 : decode cX4_sum 17 = .ok (.ifCond .ne 5, 3) := by decide +kernel
theorem dX4_sum_20 : decode cX4_sum 20 = .ok (.iconst 0, 1) := by decide +kernel
theorem dX4_sum_21 : decode cX4_sum 21 = .ok (.ireturn, 1) := by decide +kernel
theorem dX4_sum_22 : decode cX4_sum 22 = .ok (.iload_n 2, 1) := by decide +kernel
theorem dX4_sum_23 : decode cX4_sum 23 = .ok (.ifCond .eq 13, 3) := by decide +kernel
theorem dX4_sum_26 : decode cX4_sum 26 = .ok (.aload_n 0, 1) := by decide +kernel
theorem dX4_sum_27 : decode cX4_sum 27 = .ok (.getfield 24, 3) := by decide +kernel
theorem dX4_sum_30 : decode cX4_sum 30 = .ok (.bipush 6, 2) := by decide +kernel
theorem dX4_sum_32 : decode cX4_sum 32 = .ok (.iconst 0, 1) := by decide +kernel
theorem dX4_sum_33 : decode cX4_sum 33 = .ok (.invokevirtual 142, 3) := by decide +kernel
theorem dX4_sum_36 : decode cX4_sum 36 = .ok (.aload_n 0, 1) := by decide +kernel
theorem dX4_sum_37 : decode cX4_sum 37 = .ok (.invokevirtual 151, 3) := by decide +kernel
theorem dX4_sum_40 : decode cX4_sum 40 = .ok (.ifCond .ne 5, 3) := by decide +kernel
theorem dX4_sum_43 : decode cX4_sum 43 = .ok (.iconst 0, 1) := by decide +kernel
theorem dX4_sum_44 : decode cX4_sum 44 = .ok (.ireturn, 1) := by decide +kernel
theorem dX4_sum_45 : decode cX4_sum 45 = .ok (.aload_n 0, 1) := by decide +kernel
theorem dX4_sum_46 : decode cX4_sum 46 = .ok (.bipush 42, 2) := by decide +kernel
theorem dX4_sum_48 : decode cX4_sum 48 = .ok (.invokevirtual 120, 3) := by decide +kernel
theorem dX4_sum_51 : decode cX4_sum 51 = .ok (.istore_n 2, 1) := by decide +kernel
theorem dX4_sum_52 : decode cX4_sum 52 = .ok (.iload_n 2, 1) := by decide +kernel
theorem dX4_sum_53 : decode cX4_sum 53 = .ok (.ifCond .eq 6, 3) := by decide +kernel
theorem dX4_sum_56 : decode cX4_sum 56 = .ok (.goto 52, 3) := by decide +kernel
theorem dX4_sum_59 : decode cX4_sum 59 = .ok (.iload_n 1, 1) := by decide +kernel
theorem dX4_sum_60 : decode cX4_sum 60 = .ok (.iconst (-1), 1) := by decide +kernel
theorem dX4_sum_61 : decode cX4_sum 61 = .ok (.if_icmp .eq 12, 3) := by decide +kernel
theorem dX4_sum_64 : decode cX4_sum 64 = .ok (.aload_n 0, 1) := by decide +kernel
theorem dX4_sum_65 : decode cX4_sum 65 = .ok (.getfield 24, 3) := by decide +kernel
theorem dX4_sum_68 : decode cX4_sum 68 = .ok (.iload_n 1, 1) := by decide +kernel
theorem dX4_sum_69 : decode cX4_sum 69 = .ok (.iconst 0, 1) := by decide +kernel
theorem dX4_sum_70 : decode cX4_sum 70 = .ok (.invokevirtual 142, 3) := by decide +kernel
theorem dX4_sum_73 : decode cX4_sum 73 = .ok (.aload_n 0, 1) := by decide +kernel
theorem dX4_sum_74 : decode cX4_sum 74 = .ok (.getfield 51, 3) := by decide +kernel
theorem dX4_sum_77 : decode cX4_sum 77 = .ok (.bipush 43, 2) := by decide +kernel
theorem dX4_sum_79 : decode cX4_sum 79 = .ok (.if_icmp .ne 7, 3) := by decide +kernel
theorem dX4_sum_82 : decode cX4_sum 82 = .ok (.iconst 4, 1) := by decide +kernel
theorem dX4_sum_83 : decode cX4_sum 83 = .ok (.goto 4, 3) := by decide +kernel
theorem dX4_sum_86 : decode cX4_sum 86 = .ok (.iconst 5, 1) := by decide +kernel
theorem dX4_sum_87 : decode cX4_sum 87 = .ok (.istore_n 1, 1) := by decide +kernel
theorem dX4_sum_88 : decode cX4_sum 88 = .ok (.aload_n 0, 1) := by decide +kernel
theorem dX4_sum_89 : decode cX4_sum 89 = .ok (.bipush 43, 2) := by decide +kernel
theorem dX4_sum_91 : decode cX4_sum 91 = .ok (.invokevirtual 120, 3) := by decide +kernel
theorem dX4_sum_94 : decode cX4_sum 94 = .ok (.ifCond .ne 14, 3) := by decide +kernel
theorem dX4_sum_97 : decode cX4_sum 97 = .ok (.aload_n 0, 1) := by decide +kernel
theorem dX4_sum_98 : decode cX4_sum 98 = .ok (.bipush 45, 2) := by decide +kernel
theorem dX4_sum_100 : decode cX4_sum 100 = .ok (.invokevirtual 120, 3) := by decide +kernel
theorem dX4_sum_103 : decode cX4_sum 103 = .ok (.ifCond .ne 5, 3) := by decide +kernel
theorem dX4_sum_106 : decode cX4_sum 106 = .ok (.iconst 1, 1) := by decide +kernel
theorem dX4_sum_107 : decode cX4_sum 107 = .ok (.ireturn, 1) := by decide +kernel
theorem dX4_sum_108 : decode cX4_sum 108 = .ok (.iinc 3 1, 3) := by decide +kernel
theorem dX4_sum_111 : decode cX4_sum 111 = .ok (.goto (-105), 3) := by decide +kernel
theorem dX4_sum_114 : decode cX4_sum 114 = .ok (.iconst 1, 1) := by decide +kernel
theorem dX4_sum_115 : decode cX4_sum 115 = .ok (.ireturn, 1) := by decide +kernel
theorem dX5_flowOver_0 : decode cX5_flowOver 0 = .ok (.aload_n 0, 1) := by decide +kernel
theorem dX5_flowOver_1 : decode cX5_flowOver 1 = .ok (.getfield 14, 3) := by decide +kernel
theorem dX5_flowOver_4 : decode cX5_flowOver 4 = .ok (.iload_n 1, 1) := by decide +kernel
theorem dX5_flowOver_5 : decode cX5_flowOver 5 = .ok (.invokevirtual 115, 3) := by decide +kernel
theorem dX5_flowOver_8 : decode cX5_flowOver 8 = .ok (.aload_n 0, 1) := by decide +kernel
theorem dX5_flowOver_9 : decode cX5_flowOver 9 = .ok (.getfield 48, 3) := by decide +kernel
theorem dX5_flowOver_12 : decode cX5_flowOver 12 = .ok (.invokestatic 89, 3) := by decide +kernel
theorem dX5_flowOver_15 : decode cX5_flowOver 15 = .ok (.bipush 10, 2) := by decide +kernel
theorem dX5_flowOver_17 : decode cX5_flowOver 17 = .ok (.if_icmp .lt 7, 3) := by decide +kernel
theorem dX5_flowOver_20 : decode cX5_flowOver 20 = .ok (.iconst 0, 1) := by decide +kernel
theorem dX5_flowOver_21 : decode cX5_flowOver 21 = .ok (.goto 4, 3) := by decide +kernel
theorem dX5_flowOver_24 : decode cX5_flowOver 24 = .ok (.iconst 1, 1) := by decide +kernel
theorem dX5_flowOver_25 : decode cX5_flowOver 25 = .ok (.isub, 1) := by decide +kernel
theorem dX5_flowOver_26 : decode cX5_flowOver 26 = .ok (.istore_n 3, 1) := by decide +kernel
theorem dX5_flowOver_27 : decode cX5_flowOver 27 = .ok (.aload_n 0, 1) := by decide +kernel
theorem dX5_flowOver_28 : decode cX5_flowOver 28 = .ok (.getfield 14, 3) := by decide +kernel
theorem dX5_flowOver_31 : decode cX5_flowOver 31 = .ok (.iload_n 1, 1) := by decide +kernel
theorem dX5_flowOver_32 : decode cX5_flowOver 32 = .ok (.invokevirtual 118, 3) := by decide +kernel
theorem dX5_flowOver_35 : decode cX5_flowOver 35 = .ok (.ifCond .eq 29, 3) := by decide +kernel
theorem dX5_flowOver_38 : decode cX5_flowOver 38 = .ok (.aload_n 0, 1) := by decide +kernel
theorem dX5_flowOver_39 : decode cX5_flowOver 39 = .ok (.getfield 14, 3) := by decide +kernel
theorem dX5_flowOver_42 : decode cX5_flowOver 42 = .ok (.iload_n 2, 1) := by decide +kernel
