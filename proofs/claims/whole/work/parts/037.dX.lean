theorem dX11_distance_0 : decode cX11_distance 0 = .ok (.aload_n 0, 1) := by decide +kernel
theorem dX11_distance_1 : decode cX11_distance 1 = .ok (.iload_n 1, 1) := by decide +kernel
theorem dX11_distance_2 : decode cX11_distance 2 = .ok (.bipush 8, 2) := by decide +kernel
theorem dX11_distance_4 : decode cX11_distance 4 = .ok (.irem, 1) := by decide +kernel
theorem dX11_distance_5 : decode cX11_distance 5 = .ok (.iload_n 2, 1) := by decide +kernel
theorem dX11_distance_6 : decode cX11_distance 6 = .ok (.bipush 8, 2) := by decide +kernel
theorem dX11_distance_8 : decode cX11_distance 8 = .ok (.irem, 1) := by decide +kernel
theorem dX11_distance_9 : decode cX11_distance 9 = .ok (.invokevirtual 365, 3) := by decide +kernel
theorem dX11_distance_12 : decode cX11_distance 12 = .ok (.aload_n 0, 1) := by decide +kernel
theorem dX11_distance_13 : decode cX11_distance 13 = .ok (.iload_n 1, 1) := by decide +kernel
theorem dX11_distance_14 : decode cX11_distance 14 = .ok (.bipush 8, 2) := by decide +kernel
theorem dX11_distance_16 : decode cX11_distance 16 = .ok (.idiv, 1) := by decide +kernel
theorem dX11_distance_17 : decode cX11_distance 17 = .ok (.bipush 8, 2) := by decide +kernel
theorem dX11_distance_19 : decode cX11_distance 19 = .ok (.irem, 1) := by decide +kernel
theorem dX11_distance_20 : decode cX11_distance 20 = .ok (.iload_n 2, 1) := by decide +kernel
theorem dX11_distance_21 : decode cX11_distance 21 = .ok (.bipush 8, 2) := by decide +kernel
theorem dX11_distance_23 : decode cX11_distance 23 = .ok (.idiv, 1) := by decide +kernel
theorem dX11_distance_24 : decode cX11_distance 24 = .ok (.bipush 8, 2) := by decide +kernel
theorem dX11_distance_26 : decode cX11_distance 26 = .ok (.irem, 1) := by decide +kernel
theorem dX11_distance_27 : decode cX11_distance 27 = .ok (.invokevirtual 365, 3) := by decide +kernel
theorem dX11_distance_30 : decode cX11_distance 30 = .ok (.iadd, 1) := by decide +kernel
theorem dX11_distance_31 : decode cX11_distance 31 = .ok (.aload_n 0, 1) := by decide +kernel
theorem dX11_distance_32 : decode cX11_distance 32 = .ok (.iload_n 1, 1) := by decide +kernel
theorem dX11_distance_33 : decode cX11_distance 33 = .ok (.bipush 64, 2) := by decide +kernel
theorem dX11_distance_35 : decode cX11_distance 35 = .ok (.idiv, 1) := by decide +kernel
theorem dX11_distance_36 : decode cX11_distance 36 = .ok (.iload_n 2, 1) := by decide +kernel
theorem dX11_distance_37 : decode cX11_distance 37 = .ok (.bipush 64, 2) := by decide +kernel
theorem dX11_distance_39 : decode cX11_distance 39 = .ok (.idiv, 1) := by decide +kernel
theorem dX11_distance_40 : decode cX11_distance 40 = .ok (.invokevirtual 365, 3) := by decide +kernel
theorem dX11_distance_43 : decode cX11_distance 43 = .ok (.iadd, 1) := by decide +kernel
theorem dX11_distance_44 : decode cX11_distance 44 = .ok (.ireturn, 1) := by decide +kernel
theorem dX11_endOf_0 : decode cX11_endOf 0 = .ok (.iload_n 3, 1) := by decide +kernel
theorem dX11_endOf_1 : decode cX11_endOf 1 = .ok (.ifCond .eq 7, 3) := by decide +kernel
theorem dX11_endOf_4 : decode cX11_endOf 4 = .ok (.iconst 0, 1) := by decide +kernel
theorem dX11_endOf_5 : decode cX11_endOf 5 = .ok (.goto 5, 3) := by decide +kernel
theorem dX11_endOf_8 : decode cX11_endOf 8 = .ok (.bipush 99, 2) := by decide +kernel
theorem dX11_endOf_10 : decode cX11_endOf 10 = .ok (.istore 4, 2) := by decide +kernel
theorem dX11_endOf_12 : decode cX11_endOf 12 = .ok (.iconst 0, 1) := by decide +kernel
theorem dX11_endOf_13 : decode cX11_endOf 13 = .ok (.istore 5, 2) := by decide +kernel
theorem dX11_endOf_15 : decode cX11_endOf 15 = .ok (.iload 5, 2) := by decide +kernel
theorem dX11_endOf_17 : decode cX11_endOf 17 = .ok (.aload_n 0, 1) := by decide +kernel
theorem dX11_endOf_18 : decode cX11_endOf 18 = .ok (.getfield 362, 3) := by decide +kernel
theorem dX11_endOf_21 : decode cX11_endOf 21 = .ok (.if_icmp .ge 104, 3) := by decide +kernel
theorem dX11_endOf_24 : decode cX11_endOf 24 = .ok (.aload_n 0, 1) := by decide +kernel
theorem dX11_endOf_25 : decode cX11_endOf 25 = .ok (.getfield 108, 3) := by decide +kernel
theorem dX11_endOf_28 : decode cX11_endOf 28 = .ok (.iload 5, 2) := by decide +kernel
theorem dX11_endOf_30 : decode cX11_endOf 30 = .ok (.iaload, 1) := by decide +kernel
theorem dX11_endOf_31 : decode cX11_endOf 31 = .ok (.iload_n 2, 1) := by decide +kernel
theorem dX11_endOf_32 : decode cX11_endOf 32 = .ok (.if_icmp .le 6, 3) := by decide +kernel
theorem dX11_endOf_35 : decode cX11_endOf 35 = .ok (.goto 84, 3) := by decide +kernel
theorem dX11_endOf_38 : decode cX11_endOf 38 = .ok (.aload_n 0, 1) := by decide +kernel
theorem dX11_endOf_39 : decode cX11_endOf 39 = .ok (.getfield 114, 3) := by decide +kernel
theorem dX11_endOf_42 : decode cX11_endOf 42 = .ok (.aload_n 0, 1) := by decide +kernel
theorem dX11_endOf_43 : decode cX11_endOf 43 = .ok (.iload_n 1, 1) := by decide +kernel
theorem dX11_endOf_44 : decode cX11_endOf 44 = .ok (.aload_n 0, 1) := by decide +kernel
theorem dX11_endOf_45 : decode cX11_endOf 45 = .ok (.getfield 105, 3) := by decide +kernel
theorem dX11_endOf_48 : decode cX11_endOf 48 = .ok (.iload 5, 2) := by decide +kernel
theorem dX11_endOf_50 : decode cX11_endOf 50 = .ok (.iaload, 1) := by decide +kernel
theorem dX11_endOf_51 : decode cX11_endOf 51 = .ok (.invokevirtual 368, 3) := by decide +kernel
theorem dX11_endOf_54 : decode cX11_endOf 54 = .ok (.imul, 1) := by decide +kernel
theorem dX11_endOf_55 : decode cX11_endOf 55 = .ok (.istore 6, 2) := by decide +kernel
theorem dX11_endOf_57 : decode cX11_endOf 57 = .ok (.iload_n 3, 1) := by decide +kernel
theorem dX11_endOf_58 : decode cX11_endOf 58 = .ok (.ifCond .eq 30, 3) := by decide +kernel
theorem dX11_endOf_61 : decode cX11_endOf 61 = .ok (.aload_n 0, 1) := by decide +kernel
theorem dX11_endOf_62 : decode cX11_endOf 62 = .ok (.getfield 111, 3) := by decide +kernel
theorem dX11_endOf_65 : decode cX11_endOf 65 = .ok (.iload 5, 2) := by decide +kernel
theorem dX11_endOf_67 : decode cX11_endOf 67 = .ok (.iaload, 1) := by decide +kernel
theorem dX11_endOf_68 : decode cX11_endOf 68 = .ok (.iload 6, 2) := by decide +kernel
theorem dX11_endOf_70 : decode cX11_endOf 70 = .ok (.isub, 1) := by decide +kernel
theorem dX11_endOf_71 : decode cX11_endOf 71 = .ok (.iload 4, 2) := by decide +kernel
theorem dX11_endOf_73 : decode cX11_endOf 73 = .ok (.if_icmp .le 15, 3) := by decide +kernel
theorem dX11_endOf_76 : decode cX11_endOf 76 = .ok (.aload_n 0, 1) := by decide +kernel
theorem dX11_endOf_77 : decode cX11_endOf 77 = .ok (.getfield 111, 3) := by decide +kernel
theorem dX11_endOf_80 : decode cX11_endOf 80 = .ok (.iload 5, 2) := by decide +kernel
theorem dX11_endOf_82 : decode cX11_endOf 82 = .ok (.iaload, 1) := by decide +kernel
theorem dX11_endOf_83 : decode cX11_endOf 83 = .ok (.iload 6, 2) := by decide +kernel
theorem dX11_endOf_85 : decode cX11_endOf 85 = .ok (.isub, 1) := by decide +kernel
theorem dX11_endOf_86 : decode cX11_endOf 86 = .ok (.istore 4, 2) := by decide +kernel
theorem dX11_endOf_88 : decode cX11_endOf 88 = .ok (.iload_n 3, 1) := by decide +kernel
theorem dX11_endOf_89 : decode cX11_endOf 89 = .ok (.ifCond .ne 30, 3) := by decide +kernel
theorem dX11_endOf_92 : decode cX11_endOf 92 = .ok (.aload_n 0, 1) := by decide +kernel
theorem dX11_endOf_93 : decode cX11_endOf 93 = .ok (.getfield 111, 3) := by decide +kernel
theorem dX11_endOf_96 : decode cX11_endOf 96 = .ok (.iload 5, 2) := by decide +kernel
theorem dX11_endOf_98 : decode cX11_endOf 98 = .ok (.iaload, 1) := by decide +kernel
theorem dX11_endOf_99 : decode cX11_endOf 99 = .ok (.iload 6, 2) := by decide +kernel
theorem dX11_endOf_101 : decode cX11_endOf 101 = .ok (.iadd, 1) := by decide +kernel
theorem dX11_endOf_102 : decode cX11_endOf 102 = .ok (.iload 4, 2) := by decide +kernel
theorem dX11_endOf_104 : decode cX11_endOf 104 = .ok (.if_icmp .ge 15, 3) := by decide +kernel
theorem dX11_endOf_107 : decode cX11_endOf 107 = .ok (.aload_n 0, 1) := by decide +kernel
theorem dX11_endOf_108 : decode cX11_endOf 108 = .ok (.getfield 111, 3) := by decide +kernel
theorem dX11_endOf_111 : decode cX11_endOf 111 = .ok (.iload 5, 2) := by decide +kernel
theorem dX11_endOf_113 : decode cX11_endOf 113 = .ok (.iaload, 1) := by decide +kernel
theorem dX11_endOf_114 : decode cX11_endOf 114 = .ok (.iload 6, 2) := by decide +kernel
theorem dX11_endOf_116 : decode cX11_endOf 116 = .ok (.iadd, 1) := by decide +kernel
theorem dX11_endOf_117 : decode cX11_endOf 117 = .ok (.istore 4, 2) := by decide +kernel
theorem dX11_endOf_119 : decode cX11_endOf 119 = .ok (.iinc 5 1, 3) := by decide +kernel
theorem dX11_endOf_122 : decode cX11_endOf 122 = .ok (.goto (-107), 3) := by decide +kernel
theorem dX11_endOf_125 : decode cX11_endOf 125 = .ok (.aload_n 0, 1) := by decide +kernel
theorem dX11_endOf_126 : decode cX11_endOf 126 = .ok (.iload 4, 2) := by decide +kernel
theorem dX11_endOf_128 : decode cX11_endOf 128 = .ok (.bipush 99, 2) := by decide +kernel
theorem dX11_endOf_130 : decode cX11_endOf 130 = .ok (.invokevirtual 309, 3) := by decide +kernel
theorem dX11_endOf_133 : decode cX11_endOf 133 = .ok (.ireturn, 1) := by decide +kernel
theorem dX11_isHour_0 : decode cX11_isHour 0 = .ok (.aload_n 0, 1) := by decide +kernel
theorem dX11_isHour_1 : decode cX11_isHour 1 = .ok (.iload_n 1, 1) := by decide +kernel
theorem dX11_isHour_2 : decode cX11_isHour 2 = .ok (.iconst 0, 1) := by decide +kernel
theorem dX11_isHour_3 : decode cX11_isHour 3 = .ok (.sipush 719, 3) := by decide +kernel
theorem dX11_isHour_6 : decode cX11_isHour 6 = .ok (.invokevirtual 144, 3) := by decide +kernel
theorem dX11_isHour_9 : decode cX11_isHour 9 = .ok (.ireturn, 1) := by decide +kernel
theorem dX11_span_0 : decode cX11_span 0 = .ok (.aload_n 0, 1) := by decide +kernel
theorem dX11_span_1 : decode cX11_span 1 = .ok (.iconst 0, 1) := by decide +kernel
theorem dX11_span_2 : decode cX11_span 2 = .ok (.putfield 141, 3) := by decide +kernel
theorem dX11_span_5 : decode cX11_span 5 = .ok (.aload_n 0, 1) := by decide +kernel
theorem dX11_span_6 : decode cX11_span 6 = .ok (.iload_n 1, 1) := by decide +kernel
theorem dX11_span_7 : decode cX11_span 7 = .ok (.iload_n 2, 1) := by decide +kernel
theorem dX11_span_8 : decode cX11_span 8 = .ok (.iload_n 3, 1) := by decide +kernel
theorem dX11_span_9 : decode cX11_span 9 = .ok (.invokevirtual 151, 3) := by decide +kernel
theorem dX11_span_12 : decode cX11_span 12 = .ok (.istore 6, 2) := by decide +kernel
theorem dX11_span_14 : decode cX11_span 14 = .ok (.iload 6, 2) := by decide +kernel
theorem dX11_span_16 : decode cX11_span 16 = .ok (.iconst (-1), 1) := by decide +kernel
theorem dX11_span_17 : decode cX11_span 17 = .ok (.if_icmp .eq 23, 3) := by decide +kernel
theorem dX11_span_20 : decode cX11_span 20 = .ok (.aload_n 0, 1) := by decide +kernel
theorem dX11_span_21 : decode cX11_span 21 = .ok (.iload 4, 2) := by decide +kernel
theorem dX11_span_23 : decode cX11_span 23 = .ok (.invokevirtual 371, 3) := by decide +kernel
theorem dX11_span_26 : decode cX11_span 26 = .ok (.ifCond .eq 14, 3) := by decide +kernel
theorem dX11_span_29 : decode cX11_span 29 = .ok (.aload_n 0, 1) := by decide +kernel
theorem dX11_span_30 : decode cX11_span 30 = .ok (.iload 5, 2) := by decide +kernel
theorem dX11_span_32 : decode cX11_span 32 = .ok (.iconst 0, 1) := by decide +kernel
theorem dX11_span_33 : decode cX11_span 33 = .ok (.iconst 1, 1) := by decide +kernel
theorem dX11_span_34 : decode cX11_span 34 = .ok (.invokevirtual 144, 3) := by decide +kernel
theorem dX11_span_37 : decode cX11_span 37 = .ok (.ifCond .ne 7, 3) := by decide +kernel
theorem dX11_span_40 : decode cX11_span 40 = .ok (.iconst (-1), 1) := by decide +kernel
theorem dX11_span_41 : decode cX11_span 41 = .ok (.goto 21, 3) := by decide +kernel
theorem dX11_span_44 : decode cX11_span 44 = .ok (.aload_n 0, 1) := by decide +kernel
theorem dX11_span_45 : decode cX11_span 45 = .ok (.iload 6, 2) := by decide +kernel
theorem dX11_span_47 : decode cX11_span 47 = .ok (.iload 4, 2) := by decide +kernel
theorem dX11_span_49 : decode cX11_span 49 = .ok (.iload 5, 2) := by decide +kernel
theorem dX11_span_51 : decode cX11_span 51 = .ok (.ifCond .ne 7, 3) := by decide +kernel
theorem dX11_span_54 : decode cX11_span 54 = .ok (.iconst 1, 1) := by decide +kernel
theorem dX11_span_55 : decode cX11_span 55 = .ok (.goto 4, 3) := by decide +kernel
theorem dX11_span_58 : decode cX11_span 58 = .ok (.iconst 0, 1) := by decide +kernel
theorem dX11_span_59 : decode cX11_span 59 = .ok (.invokevirtual 374, 3) := by decide +kernel
theorem dX11_span_62 : decode cX11_span 62 = .ok (.ireturn, 1) := by decide +kernel
theorem dX11_meanOf_0 : decode cX11_meanOf 0 = .ok (.iconst 0, 1) := by decide +kernel
theorem dX11_meanOf_1 : decode cX11_meanOf 1 = .ok (.istore_n 3, 1) := by decide +kernel
theorem dX11_meanOf_2 : decode cX11_meanOf 2 = .ok (.iconst 0, 1) := by decide +kernel
theorem dX11_meanOf_3 : decode cX11_meanOf 3 = .ok (.istore 4, 2) := by decide +kernel
theorem dX11_meanOf_5 : decode cX11_meanOf 5 = .ok (.iconst 0, 1) := by decide +kernel
theorem dX11_meanOf_6 : decode cX11_meanOf 6 = .ok (.istore 5, 2) := by decide +kernel
theorem dX11_meanOf_8 : decode cX11_meanOf 8 = .ok (.iload 5, 2) := by decide +kernel
theorem dX11_meanOf_10 : decode cX11_meanOf 10 = .ok (.sipush 256, 3) := by decide +kernel
theorem dX11_meanOf_13 : decode cX11_meanOf 13 = .ok (.if_icmp .ge 39, 3) := by decide +kernel
theorem dX11_meanOf_16 : decode cX11_meanOf 16 = .ok (.aload_n 0, 1) := by decide +kernel
theorem dX11_meanOf_17 : decode cX11_meanOf 17 = .ok (.getfield 16, 3) := by decide +kernel
theorem dX11_meanOf_20 : decode cX11_meanOf 20 = .ok (.iload 5, 2) := by decide +kernel
theorem dX11_meanOf_22 : decode cX11_meanOf 22 = .ok (.iaload, 1) := by decide +kernel
theorem dX11_meanOf_23 : decode cX11_meanOf 23 = .ok (.ifCond .ne 6, 3) := by decide +kernel
theorem dX11_meanOf_26 : decode cX11_meanOf 26 = .ok (.goto 20, 3) := by decide +kernel
theorem dX11_meanOf_29 : decode cX11_meanOf 29 = .ok (.iload_n 3, 1) := by decide +kernel
theorem dX11_meanOf_30 : decode cX11_meanOf 30 = .ok (.aload_n 0, 1) := by decide +kernel
theorem dX11_meanOf_31 : decode cX11_meanOf 31 = .ok (.iload 5, 2) := by decide +kernel
theorem dX11_meanOf_33 : decode cX11_meanOf 33 = .ok (.iload_n 1, 1) := by decide +kernel
theorem dX11_meanOf_34 : decode cX11_meanOf 34 = .ok (.iload_n 2, 1) := by decide +kernel
theorem dX11_meanOf_35 : decode cX11_meanOf 35 = .ok (.invokevirtual 374, 3) := by decide +kernel
theorem dX11_meanOf_38 : decode cX11_meanOf 38 = .ok (.iadd, 1) := by decide +kernel
theorem dX11_meanOf_39 : decode cX11_meanOf 39 = .ok (.istore_n 3, 1) := by decide +kernel
theorem dX11_meanOf_40 : decode cX11_meanOf 40 = .ok (.iload 4, 2) := by decide +kernel
theorem dX11_meanOf_42 : decode cX11_meanOf 42 = .ok (.iconst 1, 1) := by decide +kernel
theorem dX11_meanOf_43 : decode cX11_meanOf 43 = .ok (.iadd, 1) := by decide +kernel
theorem dX11_meanOf_44 : decode cX11_meanOf 44 = .ok (.istore 4, 2) := by decide +kernel
theorem dX11_meanOf_46 : decode cX11_meanOf 46 = .ok (.iinc 5 1, 3) := by decide +kernel
theorem dX11_meanOf_49 : decode cX11_meanOf 49 = .ok (.goto (-41), 3) := by decide +kernel
theorem dX11_meanOf_52 : decode cX11_meanOf 52 = .ok (.iload 4, 2) := by decide +kernel
theorem dX11_meanOf_54 : decode cX11_meanOf 54 = .ok (.ifCond .ne 7, 3) := by decide +kernel
theorem dX11_meanOf_57 : decode cX11_meanOf 57 = .ok (.iconst (-1), 1) := by decide +kernel
theorem dX11_meanOf_58 : decode cX11_meanOf 58 = .ok (.goto 7, 3) := by decide +kernel
theorem dX11_meanOf_61 : decode cX11_meanOf 61 = .ok (.iload_n 3, 1) := by decide +kernel
theorem dX11_meanOf_62 : decode cX11_meanOf 62 = .ok (.iload 4, 2) := by decide +kernel
theorem dX11_meanOf_64 : decode cX11_meanOf 64 = .ok (.idiv, 1) := by decide +kernel
theorem dX11_meanOf_65 : decode cX11_meanOf 65 = .ok (.ireturn, 1) := by decide +kernel
theorem dX11_mean_0 : decode cX11_mean 0 = .ok (.aload_n 0, 1) := by decide +kernel
theorem dX11_mean_1 : decode cX11_mean 1 = .ok (.iconst 0, 1) := by decide +kernel
theorem dX11_mean_2 : decode cX11_mean 2 = .ok (.putfield 141, 3) := by decide +kernel
theorem dX11_mean_5 : decode cX11_mean 5 = .ok (.aload_n 0, 1) := by decide +kernel
theorem dX11_mean_6 : decode cX11_mean 6 = .ok (.iload_n 1, 1) := by decide +kernel
theorem dX11_mean_7 : decode cX11_mean 7 = .ok (.invokevirtual 371, 3) := by decide +kernel
theorem dX11_mean_10 : decode cX11_mean 10 = .ok (.ifCond .eq 13, 3) := by decide +kernel
theorem dX11_mean_13 : decode cX11_mean 13 = .ok (.aload_n 0, 1) := by decide +kernel
theorem dX11_mean_14 : decode cX11_mean 14 = .ok (.iload_n 2, 1) := by decide +kernel
theorem dX11_mean_15 : decode cX11_mean 15 = .ok (.iconst 0, 1) := by decide +kernel
theorem dX11_mean_16 : decode cX11_mean 16 = .ok (.iconst 2, 1) := by decide +kernel
theorem dX11_mean_17 : decode cX11_mean 17 = .ok (.invokevirtual 144, 3) := by decide +kernel
theorem dX11_mean_20 : decode cX11_mean 20 = .ok (.ifCond .ne 5, 3) := by decide +kernel
theorem dX11_mean_23 : decode cX11_mean 23 = .ok (.iconst (-1), 1) := by decide +kernel
theorem dX11_mean_24 : decode cX11_mean 24 = .ok (.ireturn, 1) := by decide +kernel
theorem dX11_mean_25 : decode cX11_mean 25 = .ok (.aload_n 0, 1) := by decide +kernel
theorem dX11_mean_26 : decode cX11_mean 26 = .ok (.iload_n 1, 1) := by decide +kernel
theorem dX11_mean_27 : decode cX11_mean 27 = .ok (.iconst 1, 1) := by decide +kernel
theorem dX11_mean_28 : decode cX11_mean 28 = .ok (.invokevirtual 378, 3) := by decide +kernel
theorem dX11_mean_31 : decode cX11_mean 31 = .ok (.istore_n 3, 1) := by decide +kernel
theorem dX11_mean_32 : decode cX11_mean 32 = .ok (.iload_n 2, 1) := by decide +kernel
theorem dX11_mean_33 : decode cX11_mean 33 = .ok (.ifCond .eq 8, 3) := by decide +kernel
theorem dX11_mean_36 : decode cX11_mean 36 = .ok (.iload_n 3, 1) := by decide +kernel
theorem dX11_mean_37 : decode cX11_mean 37 = .ok (.iconst (-1), 1) := by decide +kernel
theorem dX11_mean_38 : decode cX11_mean 38 = .ok (.if_icmp .ne 5, 3) := by decide +kernel
theorem dX11_mean_41 : decode cX11_mean 41 = .ok (.iload_n 3, 1) := by decide +kernel
theorem dX11_mean_42 : decode cX11_mean 42 = .ok (.ireturn, 1) := by decide +kernel
theorem dX11_mean_43 : decode cX11_mean 43 = .ok (.aload_n 0, 1) := by decide +kernel
theorem dX11_mean_44 : decode cX11_mean 44 = .ok (.iload_n 1, 1) := by decide +kernel
theorem dX11_mean_45 : decode cX11_mean 45 = .ok (.iconst 0, 1) := by decide +kernel
theorem dX11_mean_46 : decode cX11_mean 46 = .ok (.invokevirtual 378, 3) := by decide +kernel
theorem dX11_mean_49 : decode cX11_mean 49 = .ok (.istore 4, 2) := by decide +kernel
theorem dX11_mean_51 : decode cX11_mean 51 = .ok (.iload_n 2, 1) := by decide +kernel
theorem dX11_mean_52 : decode cX11_mean 52 = .ok (.iconst 1, 1) := by decide +kernel
theorem dX11_mean_53 : decode cX11_mean 53 = .ok (.if_icmp .ne 6, 3) := by decide +kernel
theorem dX11_mean_56 : decode cX11_mean 56 = .ok (.iload 4, 2) := by decide +kernel
theorem dX11_mean_58 : decode cX11_mean 58 = .ok (.ireturn, 1) := by decide +kernel
theorem dX11_mean_59 : decode cX11_mean 59 = .ok (.aload_n 0, 1) := by decide +kernel
theorem dX11_mean_60 : decode cX11_mean 60 = .ok (.getfield 117, 3) := by decide +kernel
theorem dX11_mean_63 : decode cX11_mean 63 = .ok (.iconst (-1), 1) := by decide +kernel
theorem dX11_mean_64 : decode cX11_mean 64 = .ok (.if_icmp .ne 7, 3) := by decide +kernel
theorem dX11_mean_67 : decode cX11_mean 67 = .ok (.iconst (-1), 1) := by decide +kernel
theorem dX11_mean_68 : decode cX11_mean 68 = .ok (.goto 25, 3) := by decide +kernel
theorem dX11_mean_71 : decode cX11_mean 71 = .ok (.aload_n 0, 1) := by decide +kernel
theorem dX11_mean_72 : decode cX11_mean 72 = .ok (.getfield 117, 3) := by decide +kernel
theorem dX11_mean_75 : decode cX11_mean 75 = .ok (.iload_n 3, 1) := by decide +kernel
theorem dX11_mean_76 : decode cX11_mean 76 = .ok (.if_icmp .lt 16, 3) := by decide +kernel
theorem dX11_mean_79 : decode cX11_mean 79 = .ok (.aload_n 0, 1) := by decide +kernel
theorem dX11_mean_80 : decode cX11_mean 80 = .ok (.getfield 117, 3) := by decide +kernel
theorem dX11_mean_83 : decode cX11_mean 83 = .ok (.iload 4, 2) := by decide +kernel
theorem dX11_mean_85 : decode cX11_mean 85 = .ok (.if_icmp .gt 7, 3) := by decide +kernel
theorem dX11_mean_88 : decode cX11_mean 88 = .ok (.iconst 1, 1) := by decide +kernel
theorem dX11_mean_89 : decode cX11_mean 89 = .ok (.goto 4, 3) := by decide +kernel
theorem dX11_mean_92 : decode cX11_mean 92 = .ok (.iconst 0, 1) := by decide +kernel
theorem dX11_mean_93 : decode cX11_mean 93 = .ok (.ireturn, 1) := by decide +kernel
theorem dX11_paper_0 : decode cX11_paper 0 = .ok (.aload_n 0, 1) := by decide +kernel
theorem dX11_paper_1 : decode cX11_paper 1 = .ok (.iconst 0, 1) := by decide +kernel
theorem dX11_paper_2 : decode cX11_paper 2 = .ok (.putfield 141, 3) := by decide +kernel
theorem dX11_paper_5 : decode cX11_paper 5 = .ok (.aload_n 0, 1) := by decide +kernel
theorem dX11_paper_6 : decode cX11_paper 6 = .ok (.iload_n 1, 1) := by decide +kernel
theorem dX11_paper_7 : decode cX11_paper 7 = .ok (.iconst (-1), 1) := by decide +kernel
theorem dX11_paper_8 : decode cX11_paper 8 = .ok (.bipush 99, 2) := by decide +kernel
theorem dX11_paper_10 : decode cX11_paper 10 = .ok (.invokevirtual 144, 3) := by decide +kernel
theorem dX11_paper_13 : decode cX11_paper 13 = .ok (.ifCond .ne 5, 3) := by decide +kernel
theorem dX11_paper_16 : decode cX11_paper 16 = .ok (.iconst 0, 1) := by decide +kernel
theorem dX11_paper_17 : decode cX11_paper 17 = .ok (.ireturn, 1) := by decide +kernel
theorem dX11_paper_18 : decode cX11_paper 18 = .ok (.aload_n 0, 1) := by decide +kernel
theorem dX11_paper_19 : decode cX11_paper 19 = .ok (.iload_n 1, 1) := by decide +kernel
theorem dX11_paper_20 : decode cX11_paper 20 = .ok (.putfield 117, 3) := by decide +kernel
theorem dX11_paper_23 : decode cX11_paper 23 = .ok (.iconst 1, 1) := by decide +kernel
theorem dX11_paper_24 : decode cX11_paper 24 = .ok (.ireturn, 1) := by decide +kernel
theorem dX11_place_0 : decode cX11_place 0 = .ok (.aload_n 0, 1) := by decide +kernel
theorem dX11_place_1 : decode cX11_place 1 = .ok (.iconst 0, 1) := by decide +kernel
theorem dX11_place_2 : decode cX11_place 2 = .ok (.putfield 141, 3) := by decide +kernel
theorem dX11_place_5 : decode cX11_place 5 = .ok (.aload_n 0, 1) := by decide +kernel
theorem dX11_place_6 : decode cX11_place 6 = .ok (.iload_n 2, 1) := by decide +kernel
theorem dX11_place_7 : decode cX11_place 7 = .ok (.iload_n 3, 1) := by decide +kernel
theorem dX11_place_8 : decode cX11_place 8 = .ok (.iload 4, 2) := by decide +kernel
theorem dX11_place_10 : decode cX11_place 10 = .ok (.invokevirtual 151, 3) := by decide +kernel
theorem dX11_place_13 : decode cX11_place 13 = .ok (.istore 5, 2) := by decide +kernel
theorem dX11_place_15 : decode cX11_place 15 = .ok (.aload_n 0, 1) := by decide +kernel
theorem dX11_place_16 : decode cX11_place 16 = .ok (.iload_n 1, 1) := by decide +kernel
theorem dX11_place_17 : decode cX11_place 17 = .ok (.iconst 0, 1) := by decide +kernel
theorem dX11_place_18 : decode cX11_place 18 = .ok (.bipush 7, 2) := by decide +kernel
theorem dX11_place_20 : decode cX11_place 20 = .ok (.invokevirtual 144, 3) := by decide +kernel
theorem dX11_place_23 : decode cX11_place 23 = .ok (.ifCond .eq 9, 3) := by decide +kernel
theorem dX11_place_26 : decode cX11_place 26 = .ok (.iload 5, 2) := by decide +kernel
theorem dX11_place_28 : decode cX11_place 28 = .ok (.iconst (-1), 1) := by decide +kernel
theorem dX11_place_29 : decode cX11_place 29 = .ok (.if_icmp .ne 5, 3) := by decide +kernel
theorem dX11_place_32 : decode cX11_place 32 = .ok (.iconst 0, 1) := by decide +kernel
theorem dX11_place_33 : decode cX11_place 33 = .ok (.ireturn, 1) := by decide +kernel
theorem dX11_place_34 : decode cX11_place 34 = .ok (.aload_n 0, 1) := by decide +kernel
theorem dX11_place_35 : decode cX11_place 35 = .ok (.getfield 120, 3) := by decide +kernel
theorem dX11_place_38 : decode cX11_place 38 = .ok (.iload_n 1, 1) := by decide +kernel
theorem dX11_place_39 : decode cX11_place 39 = .ok (.iload 5, 2) := by decide +kernel
theorem dX11_place_41 : decode cX11_place 41 = .ok (.iastore, 1) := by decide +kernel
theorem dX11_place_42 : decode cX11_place 42 = .ok (.iconst 1, 1) := by decide +kernel
theorem dX11_place_43 : decode cX11_place 43 = .ok (.ireturn, 1) := by decide +kernel
theorem dX11_ones_0 : decode cX11_ones 0 = .ok (.iconst 0, 1) := by decide +kernel
theorem dX11_ones_1 : decode cX11_ones 1 = .ok (.istore_n 2, 1) := by decide +kernel
theorem dX11_ones_2 : decode cX11_ones 2 = .ok (.iload_n 1, 1) := by decide +kernel
theorem dX11_ones_3 : decode cX11_ones 3 = .ok (.istore_n 3, 1) := by decide +kernel
theorem dX11_ones_4 : decode cX11_ones 4 = .ok (.iload_n 3, 1) := by decide +kernel
theorem dX11_ones_5 : decode cX11_ones 5 = .ok (.ifCond .eq 16, 3) := by decide +kernel
theorem dX11_ones_8 : decode cX11_ones 8 = .ok (.iload_n 2, 1) := by decide +kernel
theorem dX11_ones_9 : decode cX11_ones 9 = .ok (.iconst 1, 1) := by decide +kernel
theorem dX11_ones_10 : decode cX11_ones 10 = .ok (.iadd, 1) := by decide +kernel
theorem dX11_ones_11 : decode cX11_ones 11 = .ok (.istore_n 2, 1) := by decide +kernel
theorem dX11_ones_12 : decode cX11_ones 12 = .ok (.iload_n 3, 1) := by decide +kernel
theorem dX11_ones_13 : decode cX11_ones 13 = .ok (.iload_n 3, 1) := by decide +kernel
theorem dX11_ones_14 : decode cX11_ones 14 = .ok (.iconst 1, 1) := by decide +kernel
theorem dX11_ones_15 : decode cX11_ones 15 = .ok (.isub, 1) := by decide +kernel
theorem dX11_ones_16 : decode cX11_ones 16 = .ok (.iand, 1) := by decide +kernel
theorem dX11_ones_17 : decode cX11_ones 17 = .ok (.istore_n 3, 1) := by decide +kernel
theorem dX11_ones_18 : decode cX11_ones 18 = .ok (.goto (-14), 3) := by decide +kernel
theorem dX11_ones_21 : decode cX11_ones 21 = .ok (.iload_n 2, 1) := by decide +kernel
theorem dX11_ones_22 : decode cX11_ones 22 = .ok (.ireturn, 1) := by decide +kernel
theorem dX11_isFair_0 : decode cX11_isFair 0 = .ok (.iconst 0, 1) := by decide +kernel
theorem dX11_isFair_1 : decode cX11_isFair 1 = .ok (.istore_n 2, 1) := by decide +kernel
theorem dX11_isFair_2 : decode cX11_isFair 2 = .ok (.iload_n 2, 1) := by decide +kernel
theorem dX11_isFair_3 : decode cX11_isFair 3 = .ok (.sipush 256, 3) := by decide +kernel
theorem dX11_isFair_6 : decode cX11_isFair 6 = .ok (.if_icmp .ge 31, 3) := by decide +kernel
theorem dX11_isFair_9 : decode cX11_isFair 9 = .ok (.aload_n 0, 1) := by decide +kernel
theorem dX11_isFair_10 : decode cX11_isFair 10 = .ok (.getfield 16, 3) := by decide +kernel
theorem dX11_isFair_13 : decode cX11_isFair 13 = .ok (.iload_n 2, 1) := by decide +kernel
theorem dX11_isFair_14 : decode cX11_isFair 14 = .ok (.iaload, 1) := by decide +kernel
theorem dX11_isFair_15 : decode cX11_isFair 15 = .ok (.ifCond .le 16, 3) := by decide +kernel
theorem dX11_isFair_18 : decode cX11_isFair 18 = .ok (.aload_n 0, 1) := by decide +kernel
theorem dX11_isFair_19 : decode cX11_isFair 19 = .ok (.getfield 123, 3) := by decide +kernel
theorem dX11_isFair_22 : decode cX11_isFair 22 = .ok (.iload_n 2, 1) := by decide +kernel
theorem dX11_isFair_23 : decode cX11_isFair 23 = .ok (.iaload, 1) := by decide +kernel
theorem dX11_isFair_24 : decode cX11_isFair 24 = .ok (.iload_n 1, 1) := by decide +kernel
theorem dX11_isFair_25 : decode cX11_isFair 25 = .ok (.iand, 1) := by decide +kernel
theorem dX11_isFair_26 : decode cX11_isFair 26 = .ok (.ifCond .ne 5, 3) := by decide +kernel
theorem dX11_isFair_29 : decode cX11_isFair 29 = .ok (.iconst 0, 1) := by decide +kernel
theorem dX11_isFair_30 : decode cX11_isFair 30 = .ok (.ireturn, 1) := by decide +kernel
theorem dX11_isFair_31 : decode cX11_isFair 31 = .ok (.iinc 2 1, 3) := by decide +kernel
theorem dX11_isFair_34 : decode cX11_isFair 34 = .ok (.goto (-32), 3) := by decide +kernel
theorem dX11_isFair_37 : decode cX11_isFair 37 = .ok (.iconst 1, 1) := by decide +kernel
theorem dX11_isFair_38 : decode cX11_isFair 38 = .ok (.ireturn, 1) := by decide +kernel
theorem dX11_fair_0 : decode cX11_fair 0 = .ok (.aload_n 0, 1) := by decide +kernel
theorem dX11_fair_1 : decode cX11_fair 1 = .ok (.iconst 0, 1) := by decide +kernel
theorem dX11_fair_2 : decode cX11_fair 2 = .ok (.putfield 141, 3) := by decide +kernel
theorem dX11_fair_5 : decode cX11_fair 5 = .ok (.aload_n 0, 1) := by decide +kernel
theorem dX11_fair_6 : decode cX11_fair 6 = .ok (.iload_n 1, 1) := by decide +kernel
theorem dX11_fair_7 : decode cX11_fair 7 = .ok (.iconst 0, 1) := by decide +kernel
theorem dX11_fair_8 : decode cX11_fair 8 = .ok (.bipush 20, 2) := by decide +kernel
theorem dX11_fair_10 : decode cX11_fair 10 = .ok (.invokevirtual 144, 3) := by decide +kernel
theorem dX11_fair_13 : decode cX11_fair 13 = .ok (.ifCond .ne 5, 3) := by decide +kernel
theorem dX11_fair_16 : decode cX11_fair 16 = .ok (.iconst (-1), 1) := by decide +kernel
theorem dX11_fair_17 : decode cX11_fair 17 = .ok (.ireturn, 1) := by decide +kernel
theorem dX11_fair_18 : decode cX11_fair 18 = .ok (.iconst 0, 1) := by decide +kernel
theorem dX11_fair_19 : decode cX11_fair 19 = .ok (.istore_n 2, 1) := by decide +kernel
theorem dX11_fair_20 : decode cX11_fair 20 = .ok (.iconst 0, 1) := by decide +kernel
theorem dX11_fair_21 : decode cX11_fair 21 = .ok (.istore_n 3, 1) := by decide +kernel
theorem dX11_fair_22 : decode cX11_fair 22 = .ok (.iload_n 3, 1) := by decide +kernel
theorem dX11_fair_23 : decode cX11_fair 23 = .ok (.bipush 8, 2) := by decide +kernel
theorem dX11_fair_25 : decode cX11_fair 25 = .ok (.if_icmp .ge 25, 3) := by decide +kernel
theorem dX11_fair_28 : decode cX11_fair 28 = .ok (.aload_n 0, 1) := by decide +kernel
theorem dX11_fair_29 : decode cX11_fair 29 = .ok (.getfield 120, 3) := by decide +kernel
theorem dX11_fair_32 : decode cX11_fair 32 = .ok (.iload_n 3, 1) := by decide +kernel
theorem dX11_fair_33 : decode cX11_fair 33 = .ok (.iaload, 1) := by decide +kernel
theorem dX11_fair_34 : decode cX11_fair 34 = .ok (.iconst (-1), 1) := by decide +kernel
theorem dX11_fair_35 : decode cX11_fair 35 = .ok (.if_icmp .eq 9, 3) := by decide +kernel
theorem dX11_fair_38 : decode cX11_fair 38 = .ok (.iload_n 2, 1) := by decide +kernel
theorem dX11_fair_39 : decode cX11_fair 39 = .ok (.iconst 1, 1) := by decide +kernel
theorem dX11_fair_40 : decode cX11_fair 40 = .ok (.iload_n 3, 1) := by decide +kernel
theorem dX11_fair_41 : decode cX11_fair 41 = .ok (.ishl, 1) := by decide +kernel
theorem dX11_fair_42 : decode cX11_fair 42 = .ok (.ior, 1) := by decide +kernel
theorem dX11_fair_43 : decode cX11_fair 43 = .ok (.istore_n 2, 1) := by decide +kernel
theorem dX11_fair_44 : decode cX11_fair 44 = .ok (.iinc 3 1, 3) := by decide +kernel
theorem dX11_fair_47 : decode cX11_fair 47 = .ok (.goto (-25), 3) := by decide +kernel
theorem dX11_fair_50 : decode cX11_fair 50 = .ok (.iconst 0, 1) := by decide +kernel
theorem dX11_fair_51 : decode cX11_fair 51 = .ok (.istore_n 3, 1) := by decide +kernel
theorem dX11_fair_52 : decode cX11_fair 52 = .ok (.iload_n 3, 1) := by decide +kernel
theorem dX11_fair_53 : decode cX11_fair 53 = .ok (.sipush 256, 3) := by decide +kernel
theorem dX11_fair_56 : decode cX11_fair 56 = .ok (.if_icmp .ge 76, 3) := by decide +kernel
theorem dX11_fair_59 : decode cX11_fair 59 = .ok (.aload_n 0, 1) := by decide +kernel
theorem dX11_fair_60 : decode cX11_fair 60 = .ok (.getfield 123, 3) := by decide +kernel
theorem dX11_fair_63 : decode cX11_fair 63 = .ok (.iload_n 3, 1) := by decide +kernel
theorem dX11_fair_64 : decode cX11_fair 64 = .ok (.iconst 0, 1) := by decide +kernel
theorem dX11_fair_65 : decode cX11_fair 65 = .ok (.iastore, 1) := by decide +kernel
theorem dX11_fair_66 : decode cX11_fair 66 = .ok (.iconst 0, 1) := by decide +kernel
theorem dX11_fair_67 : decode cX11_fair 67 = .ok (.istore 4, 2) := by decide +kernel
theorem dX11_fair_69 : decode cX11_fair 69 = .ok (.iload 4, 2) := by decide +kernel
theorem dX11_fair_71 : decode cX11_fair 71 = .ok (.bipush 8, 2) := by decide +kernel
theorem dX11_fair_73 : decode cX11_fair 73 = .ok (.if_icmp .ge 53, 3) := by decide +kernel
theorem dX11_fair_76 : decode cX11_fair 76 = .ok (.aload_n 0, 1) := by decide +kernel
theorem dX11_fair_77 : decode cX11_fair 77 = .ok (.getfield 120, 3) := by decide +kernel
theorem dX11_fair_80 : decode cX11_fair 80 = .ok (.iload 4, 2) := by decide +kernel
theorem dX11_fair_82 : decode cX11_fair 82 = .ok (.iaload, 1) := by decide +kernel
theorem dX11_fair_83 : decode cX11_fair 83 = .ok (.iconst (-1), 1) := by decide +kernel
theorem dX11_fair_84 : decode cX11_fair 84 = .ok (.if_icmp .eq 36, 3) := by decide +kernel
theorem dX11_fair_87 : decode cX11_fair 87 = .ok (.aload_n 0, 1) := by decide +kernel
theorem dX11_fair_88 : decode cX11_fair 88 = .ok (.iload_n 3, 1) := by decide +kernel
theorem dX11_fair_89 : decode cX11_fair 89 = .ok (.aload_n 0, 1) := by decide +kernel
theorem dX11_fair_90 : decode cX11_fair 90 = .ok (.getfield 120, 3) := by decide +kernel
theorem dX11_fair_93 : decode cX11_fair 93 = .ok (.iload 4, 2) := by decide +kernel
theorem dX11_fair_95 : decode cX11_fair 95 = .ok (.iaload, 1) := by decide +kernel
theorem dX11_fair_96 : decode cX11_fair 96 = .ok (.invokevirtual 368, 3) := by decide +kernel
theorem dX11_fair_99 : decode cX11_fair 99 = .ok (.iload_n 1, 1) := by decide +kernel
theorem dX11_fair_100 : decode cX11_fair 100 = .ok (.if_icmp .gt 20, 3) := by decide +kernel
theorem dX11_fair_103 : decode cX11_fair 103 = .ok (.aload_n 0, 1) := by decide +kernel
theorem dX11_fair_104 : decode cX11_fair 104 = .ok (.getfield 123, 3) := by decide +kernel
theorem dX11_fair_107 : decode cX11_fair 107 = .ok (.iload_n 3, 1) := by decide +kernel
theorem dX11_fair_108 : decode cX11_fair 108 = .ok (.aload_n 0, 1) := by decide +kernel
theorem dX11_fair_109 : decode cX11_fair 109 = .ok (.getfield 123, 3) := by decide +kernel
theorem dX11_fair_112 : decode cX11_fair 112 = .ok (.iload_n 3, 1) := by decide +kernel
theorem dX11_fair_113 : decode cX11_fair 113 = .ok (.iaload, 1) := by decide +kernel
theorem dX11_fair_114 : decode cX11_fair 114 = .ok (.iconst 1, 1) := by decide +kernel
theorem dX11_fair_115 : decode cX11_fair 115 = .ok (.iload 4, 2) := by decide +kernel
theorem dX11_fair_117 : decode cX11_fair 117 = .ok (.ishl, 1) := by decide +kernel
theorem dX11_fair_118 : decode cX11_fair 118 = .ok (.ior, 1) := by decide +kernel
theorem dX11_fair_119 : decode cX11_fair 119 = .ok (.iastore, 1) := by decide +kernel
theorem dX11_fair_120 : decode cX11_fair 120 = .ok (.iinc 4 1, 3) := by decide +kernel
theorem dX11_fair_123 : decode cX11_fair 123 = .ok (.goto (-54), 3) := by decide +kernel
theorem dX11_fair_126 : decode cX11_fair 126 = .ok (.iinc 3 1, 3) := by decide +kernel
theorem dX11_fair_129 : decode cX11_fair 129 = .ok (.goto (-77), 3) := by decide +kernel
theorem dX11_fair_132 : decode cX11_fair 132 = .ok (.iconst (-1), 1) := by decide +kernel
theorem dX11_fair_133 : decode cX11_fair 133 = .ok (.istore_n 3, 1) := by decide +kernel
theorem dX11_fair_134 : decode cX11_fair 134 = .ok (.iconst 0, 1) := by decide +kernel
theorem dX11_fair_135 : decode cX11_fair 135 = .ok (.istore 4, 2) := by decide +kernel
theorem dX11_fair_137 : decode cX11_fair 137 = .ok (.iload 4, 2) := by decide +kernel
theorem dX11_fair_139 : decode cX11_fair 139 = .ok (.sipush 256, 3) := by decide +kernel
theorem dX11_fair_142 : decode cX11_fair 142 = .ok (.if_icmp .ge 49, 3) := by decide +kernel
theorem dX11_fair_145 : decode cX11_fair 145 = .ok (.iload 4, 2) := by decide +kernel
theorem dX11_fair_147 : decode cX11_fair 147 = .ok (.iload_n 2, 1) := by decide +kernel
theorem dX11_fair_148 : decode cX11_fair 148 = .ok (.iconst (-1), 1) := by decide +kernel
theorem dX11_fair_149 : decode cX11_fair 149 = .ok (.ixor, 1) := by decide +kernel
theorem dX11_fair_150 : decode cX11_fair 150 = .ok (.iand, 1) := by decide +kernel
theorem dX11_fair_151 : decode cX11_fair 151 = .ok (.ifCond .ne 34, 3) := by decide +kernel
theorem dX11_fair_154 : decode cX11_fair 154 = .ok (.iload_n 3, 1) := by decide +kernel
theorem dX11_fair_155 : decode cX11_fair 155 = .ok (.iconst (-1), 1) := by decide +kernel
theorem dX11_fair_156 : decode cX11_fair 156 = .ok (.if_icmp .eq 17, 3) := by decide +kernel
theorem dX11_fair_159 : decode cX11_fair 159 = .ok (.aload_n 0, 1) := by decide +kernel
theorem dX11_fair_160 : decode cX11_fair 160 = .ok (.iload 4, 2) := by decide +kernel
theorem dX11_fair_162 : decode cX11_fair 162 = .ok (.invokevirtual 382, 3) := by decide +kernel
theorem dX11_fair_165 : decode cX11_fair 165 = .ok (.aload_n 0, 1) := by decide +kernel
theorem dX11_fair_166 : decode cX11_fair 166 = .ok (.iload_n 3, 1) := by decide +kernel
theorem dX11_fair_167 : decode cX11_fair 167 = .ok (.invokevirtual 382, 3) := by decide +kernel
theorem dX11_fair_170 : decode cX11_fair 170 = .ok (.if_icmp .ge 15, 3) := by decide +kernel
theorem dX11_fair_173 : decode cX11_fair 173 = .ok (.aload_n 0, 1) := by decide +kernel
theorem dX11_fair_174 : decode cX11_fair 174 = .ok (.iload 4, 2) := by decide +kernel
theorem dX11_fair_176 : decode cX11_fair 176 = .ok (.invokevirtual 385, 3) := by decide +kernel
theorem dX11_fair_179 : decode cX11_fair 179 = .ok (.ifCond .eq 6, 3) := by decide +kernel
theorem dX11_fair_182 : decode cX11_fair 182 = .ok (.iload 4, 2) := by decide +kernel
theorem dX11_fair_184 : decode cX11_fair 184 = .ok (.istore_n 3, 1) := by decide +kernel
theorem dX11_fair_185 : decode cX11_fair 185 = .ok (.iinc 4 1, 3) := by decide +kernel
theorem dX11_fair_188 : decode cX11_fair 188 = .ok (.goto (-51), 3) := by decide +kernel
theorem dX11_fair_191 : decode cX11_fair 191 = .ok (.iload_n 3, 1) := by decide +kernel
theorem dX11_fair_192 : decode cX11_fair 192 = .ok (.ireturn, 1) := by decide +kernel
theorem dX11_isSo_0 : decode cX11_isSo 0 = .ok (.bipush 16, 2) := by decide +kernel
theorem dX11_isSo_2 : decode cX11_isSo 2 = .ok (.istore_n 3, 1) := by decide +kernel
theorem dX11_isSo_3 : decode cX11_isSo 3 = .ok (.iload_n 3, 1) := by decide +kernel
theorem dX11_isSo_4 : decode cX11_isSo 4 = .ok (.bipush 16, 2) := by decide +kernel
theorem dX11_isSo_6 : decode cX11_isSo 6 = .ok (.aload_n 0, 1) := by decide +kernel
theorem dX11_isSo_7 : decode cX11_isSo 7 = .ok (.getfield 53, 3) := by decide +kernel
theorem dX11_isSo_10 : decode cX11_isSo 10 = .ok (.iconst 1, 1) := by decide +kernel
theorem dX11_isSo_11 : decode cX11_isSo 11 = .ok (.iaload, 1) := by decide +kernel
theorem dX11_isSo_12 : decode cX11_isSo 12 = .ok (.iadd, 1) := by decide +kernel
theorem dX11_isSo_13 : decode cX11_isSo 13 = .ok (.if_icmp .ge 56, 3) := by decide +kernel
theorem dX11_isSo_16 : decode cX11_isSo 16 = .ok (.aload_n 0, 1) := by decide +kernel
theorem dX11_isSo_17 : decode cX11_isSo 17 = .ok (.getfield 56, 3) := by decide +kernel
theorem dX11_isSo_20 : decode cX11_isSo 20 = .ok (.iload_n 3, 1) := by decide +kernel
theorem dX11_isSo_21 : decode cX11_isSo 21 = .ok (.iaload, 1) := by decide +kernel
theorem dX11_isSo_22 : decode cX11_isSo 22 = .ok (.iload_n 1, 1) := by decide +kernel
theorem dX11_isSo_23 : decode cX11_isSo 23 = .ok (.if_icmp .ne 40, 3) := by decide +kernel
theorem dX11_isSo_26 : decode cX11_isSo 26 = .ok (.iload_n 2, 1) := by decide +kernel
theorem dX11_isSo_27 : decode cX11_isSo 27 = .ok (.iconst (-1), 1) := by decide +kernel
theorem dX11_isSo_28 : decode cX11_isSo 28 = .ok (.if_icmp .eq 13, 3) := by decide +kernel
theorem dX11_isSo_31 : decode cX11_isSo 31 = .ok (.aload_n 0, 1) := by decide +kernel
theorem dX11_isSo_32 : decode cX11_isSo 32 = .ok (.getfield 59, 3) := by decide +kernel
theorem dX11_isSo_35 : decode cX11_isSo 35 = .ok (.iload_n 3, 1) := by decide +kernel
theorem dX11_isSo_36 : decode cX11_isSo 36 = .ok (.iaload, 1) := by decide +kernel
theorem dX11_isSo_37 : decode cX11_isSo 37 = .ok (.iload_n 2, 1) := by decide +kernel
theorem dX11_isSo_38 : decode cX11_isSo 38 = .ok (.if_icmp .ne 25, 3) := by decide +kernel
theorem dX11_isSo_41 : decode cX11_isSo 41 = .ok (.aload_n 0, 1) := by decide +kernel
theorem dX11_isSo_42 : decode cX11_isSo 42 = .ok (.iconst 1, 1) := by decide +kernel
theorem dX11_isSo_43 : decode cX11_isSo 43 = .ok (.aload_n 0, 1) := by decide +kernel
theorem dX11_isSo_44 : decode cX11_isSo 44 = .ok (.getfield 65, 3) := by decide +kernel
theorem dX11_isSo_47 : decode cX11_isSo 47 = .ok (.iload_n 3, 1) := by decide +kernel
theorem dX11_isSo_48 : decode cX11_isSo 48 = .ok (.iaload, 1) := by decide +kernel
theorem dX11_isSo_49 : decode cX11_isSo 49 = .ok (.aload_n 0, 1) := by decide +kernel
theorem dX11_isSo_50 : decode cX11_isSo 50 = .ok (.getfield 68, 3) := by decide +kernel
theorem dX11_isSo_53 : decode cX11_isSo 53 = .ok (.iload_n 3, 1) := by decide +kernel
theorem dX11_isSo_54 : decode cX11_isSo 54 = .ok (.iaload, 1) := by decide +kernel
theorem dX11_isSo_55 : decode cX11_isSo 55 = .ok (.invokevirtual 280, 3) := by decide +kernel
theorem dX11_isSo_58 : decode cX11_isSo 58 = .ok (.ifCond .eq 5, 3) := by decide +kernel
theorem dX11_isSo_61 : decode cX11_isSo 61 = .ok (.iconst 1, 1) := by decide +kernel
theorem dX11_isSo_62 : decode cX11_isSo 62 = .ok (.ireturn, 1) := by decide +kernel
theorem dX11_isSo_63 : decode cX11_isSo 63 = .ok (.iinc 3 1, 3) := by decide +kernel
theorem dX11_isSo_66 : decode cX11_isSo 66 = .ok (.goto (-63), 3) := by decide +kernel
theorem dX11_isSo_69 : decode cX11_isSo 69 = .ok (.iconst 0, 1) := by decide +kernel
theorem dX11_isSo_70 : decode cX11_isSo 70 = .ok (.ireturn, 1) := by decide +kernel
theorem dX11_may_0 : decode cX11_may 0 = .ok (.aload_n 0, 1) := by decide +kernel
theorem dX11_may_1 : decode cX11_may 1 = .ok (.iconst 0, 1) := by decide +kernel
theorem dX11_may_2 : decode cX11_may 2 = .ok (.putfield 141, 3) := by decide +kernel
theorem dX11_may_5 : decode cX11_may 5 = .ok (.aload_n 0, 1) := by decide +kernel
theorem dX11_may_6 : decode cX11_may 6 = .ok (.iload_n 1, 1) := by decide +kernel
theorem dX11_may_7 : decode cX11_may 7 = .ok (.iconst 0, 1) := by decide +kernel
theorem dX11_may_8 : decode cX11_may 8 = .ok (.iconst 3, 1) := by decide +kernel
theorem dX11_may_9 : decode cX11_may 9 = .ok (.invokevirtual 144, 3) := by decide +kernel
theorem dX11_may_12 : decode cX11_may 12 = .ok (.ifCond .eq 13, 3) := by decide +kernel
theorem dX11_may_15 : decode cX11_may 15 = .ok (.aload_n 0, 1) := by decide +kernel
theorem dX11_may_16 : decode cX11_may 16 = .ok (.iload_n 2, 1) := by decide +kernel
theorem dX11_may_17 : decode cX11_may 17 = .ok (.iconst 0, 1) := by decide +kernel
theorem dX11_may_18 : decode cX11_may 18 = .ok (.iconst 2, 1) := by decide +kernel
theorem dX11_may_19 : decode cX11_may 19 = .ok (.invokevirtual 144, 3) := by decide +kernel
theorem dX11_may_22 : decode cX11_may 22 = .ok (.ifCond .ne 5, 3) := by decide +kernel
theorem dX11_may_25 : decode cX11_may 25 = .ok (.iconst (-1), 1) := by decide +kernel
theorem dX11_may_26 : decode cX11_may 26 = .ok (.ireturn, 1) := by decide +kernel
theorem dX11_may_27 : decode cX11_may 27 = .ok (.aload_n 0, 1) := by decide +kernel
theorem dX11_may_28 : decode cX11_may 28 = .ok (.getfield 362, 3) := by decide +kernel
theorem dX11_may_31 : decode cX11_may 31 = .ok (.ifCond .ne 8, 3) := by decide +kernel
theorem dX11_may_34 : decode cX11_may 34 = .ok (.bipush 99, 2) := by decide +kernel
theorem dX11_may_36 : decode cX11_may 36 = .ok (.goto 19, 3) := by decide +kernel
theorem dX11_may_39 : decode cX11_may 39 = .ok (.aload_n 0, 1) := by decide +kernel
theorem dX11_may_40 : decode cX11_may 40 = .ok (.getfield 283, 3) := by decide +kernel
theorem dX11_may_43 : decode cX11_may 43 = .ok (.aload_n 0, 1) := by decide +kernel
theorem dX11_may_44 : decode cX11_may 44 = .ok (.getfield 108, 3) := by decide +kernel
theorem dX11_may_47 : decode cX11_may 47 = .ok (.aload_n 0, 1) := by decide +kernel
theorem dX11_may_48 : decode cX11_may 48 = .ok (.getfield 362, 3) := by decide +kernel
theorem dX11_may_51 : decode cX11_may 51 = .ok (.iconst 1, 1) := by decide +kernel
theorem dX11_may_52 : decode cX11_may 52 = .ok (.isub, 1) := by decide +kernel
theorem dX11_may_53 : decode cX11_may 53 = .ok (.iaload, 1) := by decide +kernel
theorem dX11_may_54 : decode cX11_may 54 = .ok (.isub, 1) := by decide +kernel
theorem dX11_may_55 : decode cX11_may 55 = .ok (.istore_n 3, 1) := by decide +kernel
theorem dX11_may_56 : decode cX11_may 56 = .ok (.aload_n 0, 1) := by decide +kernel
theorem dX11_may_57 : decode cX11_may 57 = .ok (.getfield 84, 3) := by decide +kernel
theorem dX11_may_60 : decode cX11_may 60 = .ok (.bipush 9, 2) := by decide +kernel
theorem dX11_may_62 : decode cX11_may 62 = .ok (.aload_n 0, 1) := by decide +kernel
theorem dX11_may_63 : decode cX11_may 63 = .ok (.getfield 117, 3) := by decide +kernel
theorem dX11_may_66 : decode cX11_may 66 = .ok (.iconst (-1), 1) := by decide +kernel
theorem dX11_may_67 : decode cX11_may 67 = .ok (.if_icmp .ne 7, 3) := by decide +kernel
theorem dX11_may_70 : decode cX11_may 70 = .ok (.iconst 0, 1) := by decide +kernel
theorem dX11_may_71 : decode cX11_may 71 = .ok (.goto 7, 3) := by decide +kernel
theorem dX11_may_74 : decode cX11_may 74 = .ok (.aload_n 0, 1) := by decide +kernel
theorem dX11_may_75 : decode cX11_may 75 = .ok (.getfield 117, 3) := by decide +kernel
theorem dX11_may_78 : decode cX11_may 78 = .ok (.iastore, 1) := by decide +kernel
theorem dX11_may_79 : decode cX11_may 79 = .ok (.aload_n 0, 1) := by decide +kernel
theorem dX11_may_80 : decode cX11_may 80 = .ok (.getfield 84, 3) := by decide +kernel
theorem dX11_may_83 : decode cX11_may 83 = .ok (.bipush 10, 2) := by decide +kernel
theorem dX11_may_85 : decode cX11_may 85 = .ok (.aload_n 0, 1) := by decide +kernel
theorem dX11_may_86 : decode cX11_may 86 = .ok (.getfield 362, 3) := by decide +kernel
theorem dX11_may_89 : decode cX11_may 89 = .ok (.ifCond .ne 7, 3) := by decide +kernel
theorem dX11_may_92 : decode cX11_may 92 = .ok (.iconst 0, 1) := by decide +kernel
theorem dX11_may_93 : decode cX11_may 93 = .ok (.goto 14, 3) := by decide +kernel
theorem dX11_may_96 : decode cX11_may 96 = .ok (.aload_n 0, 1) := by decide +kernel
theorem dX11_may_97 : decode cX11_may 97 = .ok (.getfield 111, 3) := by decide +kernel
theorem dX11_may_100 : decode cX11_may 100 = .ok (.aload_n 0, 1) := by decide +kernel
theorem dX11_may_101 : decode cX11_may 101 = .ok (.getfield 362, 3) := by decide +kernel
theorem dX11_may_104 : decode cX11_may 104 = .ok (.iconst 1, 1) := by decide +kernel
theorem dX11_may_105 : decode cX11_may 105 = .ok (.isub, 1) := by decide +kernel
theorem dX11_may_106 : decode cX11_may 106 = .ok (.iaload, 1) := by decide +kernel
theorem dX11_may_107 : decode cX11_may 107 = .ok (.iastore, 1) := by decide +kernel
theorem dX11_may_108 : decode cX11_may 108 = .ok (.aload_n 0, 1) := by decide +kernel
theorem dX11_may_109 : decode cX11_may 109 = .ok (.getfield 84, 3) := by decide +kernel
theorem dX11_may_112 : decode cX11_may 112 = .ok (.bipush 11, 2) := by decide +kernel
theorem dX11_may_114 : decode cX11_may 114 = .ok (.iload_n 3, 1) := by decide +kernel
theorem dX11_may_115 : decode cX11_may 115 = .ok (.bipush 99, 2) := by decide +kernel
theorem dX11_may_117 : decode cX11_may 117 = .ok (.if_icmp .le 8, 3) := by decide +kernel
theorem dX11_may_120 : decode cX11_may 120 = .ok (.bipush 99, 2) := by decide +kernel
theorem dX11_may_122 : decode cX11_may 122 = .ok (.goto 4, 3) := by decide +kernel
theorem dX11_may_125 : decode cX11_may 125 = .ok (.iload_n 3, 1) := by decide +kernel
theorem dX11_may_126 : decode cX11_may 126 = .ok (.iastore, 1) := by decide +kernel
theorem dX11_may_127 : decode cX11_may 127 = .ok (.aload_n 0, 1) := by decide +kernel
theorem dX11_may_128 : decode cX11_may 128 = .ok (.getfield 84, 3) := by decide +kernel
theorem dX11_may_131 : decode cX11_may 131 = .ok (.iconst 5, 1) := by decide +kernel
theorem dX11_may_132 : decode cX11_may 132 = .ok (.aload_n 0, 1) := by decide +kernel
theorem dX11_may_133 : decode cX11_may 133 = .ok (.getfield 7, 3) := by decide +kernel
theorem dX11_may_136 : decode cX11_may 136 = .ok (.aload_n 0, 1) := by decide +kernel
theorem dX11_may_137 : decode cX11_may 137 = .ok (.getfield 283, 3) := by decide +kernel
theorem dX11_may_140 : decode cX11_may 140 = .ok (.bipush 24, 2) := by decide +kernel
theorem dX11_may_142 : decode cX11_may 142 = .ok (.idiv, 1) := by decide +kernel
theorem dX11_may_143 : decode cX11_may 143 = .ok (.iaload, 1) := by decide +kernel
theorem dX11_may_144 : decode cX11_may 144 = .ok (.iastore, 1) := by decide +kernel
theorem dX11_may_145 : decode cX11_may 145 = .ok (.aload_n 0, 1) := by decide +kernel
theorem dX11_may_146 : decode cX11_may 146 = .ok (.getfield 84, 3) := by decide +kernel
theorem dX11_may_149 : decode cX11_may 149 = .ok (.bipush 12, 2) := by decide +kernel
theorem dX11_may_151 : decode cX11_may 151 = .ok (.aload_n 0, 1) := by decide +kernel
theorem dX11_may_152 : decode cX11_may 152 = .ok (.getfield 283, 3) := by decide +kernel
theorem dX11_may_155 : decode cX11_may 155 = .ok (.bipush 24, 2) := by decide +kernel
theorem dX11_may_157 : decode cX11_may 157 = .ok (.idiv, 1) := by decide +kernel
theorem dX11_may_158 : decode cX11_may 158 = .ok (.iastore, 1) := by decide +kernel
theorem dX11_may_159 : decode cX11_may 159 = .ok (.aload_n 0, 1) := by decide +kernel
theorem dX11_may_160 : decode cX11_may 160 = .ok (.getfield 84, 3) := by decide +kernel
theorem dX11_may_163 : decode cX11_may 163 = .ok (.bipush 13, 2) := by decide +kernel
theorem dX11_may_165 : decode cX11_may 165 = .ok (.aload_n 0, 1) := by decide +kernel
theorem dX11_may_166 : decode cX11_may 166 = .ok (.invokevirtual 353, 3) := by decide +kernel
theorem dX11_may_169 : decode cX11_may 169 = .ok (.iastore, 1) := by decide +kernel
theorem dX11_may_170 : decode cX11_may 170 = .ok (.aload_n 0, 1) := by decide +kernel
theorem dX11_may_171 : decode cX11_may 171 = .ok (.getfield 84, 3) := by decide +kernel
theorem dX11_may_174 : decode cX11_may 174 = .ok (.bipush 14, 2) := by decide +kernel
theorem dX11_may_176 : decode cX11_may 176 = .ok (.aload_n 0, 1) := by decide +kernel
theorem dX11_may_177 : decode cX11_may 177 = .ok (.getfield 13, 3) := by decide +kernel
theorem dX11_may_180 : decode cX11_may 180 = .ok (.aload_n 0, 1) := by decide +kernel
theorem dX11_may_181 : decode cX11_may 181 = .ok (.getfield 283, 3) := by decide +kernel
theorem dX11_may_184 : decode cX11_may 184 = .ok (.bipush 24, 2) := by decide +kernel
theorem dX11_may_186 : decode cX11_may 186 = .ok (.idiv, 1) := by decide +kernel
theorem dX11_may_187 : decode cX11_may 187 = .ok (.iaload, 1) := by decide +kernel
theorem dX11_may_188 : decode cX11_may 188 = .ok (.iastore, 1) := by decide +kernel
theorem dX11_may_189 : decode cX11_may 189 = .ok (.aload_n 0, 1) := by decide +kernel
theorem dX11_may_190 : decode cX11_may 190 = .ok (.getfield 84, 3) := by decide +kernel
theorem dX11_may_193 : decode cX11_may 193 = .ok (.bipush 15, 2) := by decide +kernel
theorem dX11_may_195 : decode cX11_may 195 = .ok (.aload_n 0, 1) := by decide +kernel
theorem dX11_may_196 : decode cX11_may 196 = .ok (.getfield 347, 3) := by decide +kernel
theorem dX11_may_199 : decode cX11_may 199 = .ok (.ifCond .eq 7, 3) := by decide +kernel
theorem dX11_may_202 : decode cX11_may 202 = .ok (.iconst 0, 1) := by decide +kernel
theorem dX11_may_203 : decode cX11_may 203 = .ok (.goto 4, 3) := by decide +kernel
theorem dX11_may_206 : decode cX11_may 206 = .ok (.iconst 1, 1) := by decide +kernel
theorem dX11_may_207 : decode cX11_may 207 = .ok (.iastore, 1) := by decide +kernel
theorem dX11_may_208 : decode cX11_may 208 = .ok (.aload_n 0, 1) := by decide +kernel
theorem dX11_may_209 : decode cX11_may 209 = .ok (.iconst 4, 1) := by decide +kernel
theorem dX11_may_210 : decode cX11_may 210 = .ok (.iload_n 2, 1) := by decide +kernel
theorem dX11_may_211 : decode cX11_may 211 = .ok (.iadd, 1) := by decide +kernel
theorem dX11_may_212 : decode cX11_may 212 = .ok (.iload_n 1, 1) := by decide +kernel
theorem dX11_may_213 : decode cX11_may 213 = .ok (.invokevirtual 388, 3) := by decide +kernel
theorem dX11_may_216 : decode cX11_may 216 = .ok (.ifCond .eq 7, 3) := by decide +kernel
theorem dX11_may_219 : decode cX11_may 219 = .ok (.iconst 1, 1) := by decide +kernel
theorem dX11_may_220 : decode cX11_may 220 = .ok (.goto 4, 3) := by decide +kernel
theorem dX11_may_223 : decode cX11_may 223 = .ok (.iconst 0, 1) := by decide +kernel
theorem dX11_may_224 : decode cX11_may 224 = .ok (.ireturn, 1) := by decide +kernel
theorem dX11_let_0 : decode cX11_let 0 = .ok (.aload_n 0, 1) := by decide +kernel
theorem dX11_let_1 : decode cX11_let 1 = .ok (.iconst 0, 1) := by decide +kernel
theorem dX11_let_2 : decode cX11_let 2 = .ok (.putfield 141, 3) := by decide +kernel
theorem dX11_let_5 : decode cX11_let 5 = .ok (.aload_n 0, 1) := by decide +kernel
theorem dX11_let_6 : decode cX11_let 6 = .ok (.iload_n 1, 1) := by decide +kernel
theorem dX11_let_7 : decode cX11_let 7 = .ok (.iconst 0, 1) := by decide +kernel
theorem dX11_let_8 : decode cX11_let 8 = .ok (.bipush 20, 2) := by decide +kernel
theorem dX11_let_10 : decode cX11_let 10 = .ok (.invokevirtual 144, 3) := by decide +kernel
theorem dX11_let_13 : decode cX11_let 13 = .ok (.ifCond .eq 13, 3) := by decide +kernel
theorem dX11_let_16 : decode cX11_let 16 = .ok (.aload_n 0, 1) := by decide +kernel
theorem dX11_let_17 : decode cX11_let 17 = .ok (.iload_n 2, 1) := by decide +kernel
theorem dX11_let_18 : decode cX11_let 18 = .ok (.iconst 0, 1) := by decide +kernel
theorem dX11_let_19 : decode cX11_let 19 = .ok (.iconst 1, 1) := by decide +kernel
theorem dX11_let_20 : decode cX11_let 20 = .ok (.invokevirtual 144, 3) := by decide +kernel
theorem dX11_let_23 : decode cX11_let 23 = .ok (.ifCond .ne 5, 3) := by decide +kernel
theorem dX11_let_26 : decode cX11_let 26 = .ok (.iconst (-1), 1) := by decide +kernel
theorem dX11_let_27 : decode cX11_let 27 = .ok (.ireturn, 1) := by decide +kernel
theorem dX11_let_28 : decode cX11_let 28 = .ok (.iconst 0, 1) := by decide +kernel
theorem dX11_let_29 : decode cX11_let 29 = .ok (.istore_n 3, 1) := by decide +kernel
theorem dX11_let_30 : decode cX11_let 30 = .ok (.iconst (-1), 1) := by decide +kernel
theorem dX11_let_31 : decode cX11_let 31 = .ok (.istore 4, 2) := by decide +kernel
theorem dX11_let_33 : decode cX11_let 33 = .ok (.aload_n 0, 1) := by decide +kernel
theorem dX11_let_34 : decode cX11_let 34 = .ok (.getfield 84, 3) := by decide +kernel
theorem dX11_let_37 : decode cX11_let 37 = .ok (.bipush 12, 2) := by decide +kernel
theorem dX11_let_39 : decode cX11_let 39 = .ok (.iconst 0, 1) := by decide +kernel
theorem dX11_let_40 : decode cX11_let 40 = .ok (.iastore, 1) := by decide +kernel
theorem dX11_let_41 : decode cX11_let 41 = .ok (.aload_n 0, 1) := by decide +kernel
theorem dX11_let_42 : decode cX11_let 42 = .ok (.getfield 84, 3) := by decide +kernel
theorem dX11_let_45 : decode cX11_let 45 = .ok (.bipush 13, 2) := by decide +kernel
theorem dX11_let_47 : decode cX11_let 47 = .ok (.iconst 0, 1) := by decide +kernel
theorem dX11_let_48 : decode cX11_let 48 = .ok (.iastore, 1) := by decide +kernel
theorem dX11_let_49 : decode cX11_let 49 = .ok (.aload_n 0, 1) := by decide +kernel
theorem dX11_let_50 : decode cX11_let 50 = .ok (.getfield 84, 3) := by decide +kernel
theorem dX11_let_53 : decode cX11_let 53 = .ok (.bipush 14, 2) := by decide +kernel
theorem dX11_let_55 : decode cX11_let 55 = .ok (.iconst 0, 1) := by decide +kernel
theorem dX11_let_56 : decode cX11_let 56 = .ok (.iastore, 1) := by decide +kernel
theorem dX11_let_57 : decode cX11_let 57 = .ok (.aload_n 0, 1) := by decide +kernel
theorem dX11_let_58 : decode cX11_let 58 = .ok (.getfield 84, 3) := by decide +kernel
theorem dX11_let_61 : decode cX11_let 61 = .ok (.bipush 15, 2) := by decide +kernel
theorem dX11_let_63 : decode cX11_let 63 = .ok (.iconst 1, 1) := by decide +kernel
theorem dX11_let_64 : decode cX11_let 64 = .ok (.iastore, 1) := by decide +kernel
theorem dX11_let_65 : decode cX11_let 65 = .ok (.iconst 0, 1) := by decide +kernel
theorem dX11_let_66 : decode cX11_let 66 = .ok (.istore 5, 2) := by decide +kernel
theorem dX11_let_68 : decode cX11_let 68 = .ok (.iload 5, 2) := by decide +kernel
theorem dX11_let_70 : decode cX11_let 70 = .ok (.bipush 20, 2) := by decide +kernel
theorem dX11_let_72 : decode cX11_let 72 = .ok (.if_icmp .gt 143, 3) := by decide +kernel
theorem dX11_let_75 : decode cX11_let 75 = .ok (.iload_n 1, 1) := by decide +kernel
theorem dX11_let_76 : decode cX11_let 76 = .ok (.iconst 1, 1) := by decide +kernel
theorem dX11_let_77 : decode cX11_let 77 = .ok (.iadd, 1) := by decide +kernel
theorem dX11_let_78 : decode cX11_let 78 = .ok (.bipush 100, 2) := by decide +kernel
theorem dX11_let_80 : decode cX11_let 80 = .ok (.imul, 1) := by decide +kernel
theorem dX11_let_81 : decode cX11_let 81 = .ok (.istore 6, 2) := by decide +kernel
theorem dX11_let_83 : decode cX11_let 83 = .ok (.iload 6, 2) := by decide +kernel
theorem dX11_let_85 : decode cX11_let 85 = .ok (.sipush 2100, 3) := by decide +kernel
theorem dX11_let_88 : decode cX11_let 88 = .ok (.if_icmp .ge 121, 3) := by decide +kernel
theorem dX11_let_91 : decode cX11_let 91 = .ok (.aload_n 0, 1) := by decide +kernel
theorem dX11_let_92 : decode cX11_let 92 = .ok (.getfield 84, 3) := by decide +kernel
theorem dX11_let_95 : decode cX11_let 95 = .ok (.bipush 9, 2) := by decide +kernel
theorem dX11_let_97 : decode cX11_let 97 = .ok (.iload 5, 2) := by decide +kernel
theorem dX11_let_99 : decode cX11_let 99 = .ok (.iastore, 1) := by decide +kernel
theorem dX11_let_100 : decode cX11_let 100 = .ok (.aload_n 0, 1) := by decide +kernel
theorem dX11_let_101 : decode cX11_let 101 = .ok (.getfield 84, 3) := by decide +kernel
theorem dX11_let_104 : decode cX11_let 104 = .ok (.bipush 10, 2) := by decide +kernel
theorem dX11_let_106 : decode cX11_let 106 = .ok (.iload 6, 2) := by decide +kernel
theorem dX11_let_108 : decode cX11_let 108 = .ok (.bipush 100, 2) := by decide +kernel
theorem dX11_let_110 : decode cX11_let 110 = .ok (.idiv, 1) := by decide +kernel
theorem dX11_let_111 : decode cX11_let 111 = .ok (.iastore, 1) := by decide +kernel
theorem dX11_let_112 : decode cX11_let 112 = .ok (.aload_n 0, 1) := by decide +kernel
theorem dX11_let_113 : decode cX11_let 113 = .ok (.getfield 84, 3) := by decide +kernel
theorem dX11_let_116 : decode cX11_let 116 = .ok (.bipush 11, 2) := by decide +kernel
theorem dX11_let_118 : decode cX11_let 118 = .ok (.iload 6, 2) := by decide +kernel
theorem dX11_let_120 : decode cX11_let 120 = .ok (.bipush 10, 2) := by decide +kernel
theorem dX11_let_122 : decode cX11_let 122 = .ok (.idiv, 1) := by decide +kernel
theorem dX11_let_123 : decode cX11_let 123 = .ok (.bipush 10, 2) := by decide +kernel
theorem dX11_let_125 : decode cX11_let 125 = .ok (.irem, 1) := by decide +kernel
theorem dX11_let_126 : decode cX11_let 126 = .ok (.iastore, 1) := by decide +kernel
theorem dX11_let_127 : decode cX11_let 127 = .ok (.aload_n 0, 1) := by decide +kernel
theorem dX11_let_128 : decode cX11_let 128 = .ok (.getfield 84, 3) := by decide +kernel
theorem dX11_let_131 : decode cX11_let 131 = .ok (.iconst 5, 1) := by decide +kernel
theorem dX11_let_132 : decode cX11_let 132 = .ok (.iload 6, 2) := by decide +kernel
theorem dX11_let_134 : decode cX11_let 134 = .ok (.bipush 10, 2) := by decide +kernel
theorem dX11_let_136 : decode cX11_let 136 = .ok (.irem, 1) := by decide +kernel
theorem dX11_let_137 : decode cX11_let 137 = .ok (.iastore, 1) := by decide +kernel
theorem dX11_let_138 : decode cX11_let 138 = .ok (.aload_n 0, 1) := by decide +kernel
theorem dX11_let_139 : decode cX11_let 139 = .ok (.iconst 4, 1) := by decide +kernel
theorem dX11_let_140 : decode cX11_let 140 = .ok (.iconst (-1), 1) := by decide +kernel
theorem dX11_let_141 : decode cX11_let 141 = .ok (.invokevirtual 388, 3) := by decide +kernel
theorem dX11_let_144 : decode cX11_let 144 = .ok (.ifCond .eq 59, 3) := by decide +kernel
theorem dX11_let_147 : decode cX11_let 147 = .ok (.aload_n 0, 1) := by decide +kernel
theorem dX11_let_148 : decode cX11_let 148 = .ok (.iconst 5, 1) := by decide +kernel
theorem dX11_let_149 : decode cX11_let 149 = .ok (.iconst (-1), 1) := by decide +kernel
theorem dX11_let_150 : decode cX11_let 150 = .ok (.invokevirtual 388, 3) := by decide +kernel
theorem dX11_let_153 : decode cX11_let 153 = .ok (.ifCond .eq 6, 3) := by decide +kernel
theorem dX11_let_156 : decode cX11_let 156 = .ok (.goto 47, 3) := by decide +kernel
theorem dX11_let_159 : decode cX11_let 159 = .ok (.iload_n 3, 1) := by decide +kernel
theorem dX11_let_160 : decode cX11_let 160 = .ok (.ifCond .ne 39, 3) := by decide +kernel
theorem dX11_let_163 : decode cX11_let 163 = .ok (.ldc_w 392, 3) := by decide +kernel
theorem dX11_let_166 : decode cX11_let 166 = .ok (.iload 5, 2) := by decide +kernel
theorem dX11_let_168 : decode cX11_let 168 = .ok (.imul, 1) := by decide +kernel
theorem dX11_let_169 : decode cX11_let 169 = .ok (.sipush 10000, 3) := by decide +kernel
theorem dX11_let_172 : decode cX11_let 172 = .ok (.iload 6, 2) := by decide +kernel
theorem dX11_let_174 : decode cX11_let 174 = .ok (.bipush 100, 2) := by decide +kernel
theorem dX11_let_176 : decode cX11_let 176 = .ok (.idiv, 1) := by decide +kernel
theorem dX11_let_177 : decode cX11_let 177 = .ok (.imul, 1) := by decide +kernel
theorem dX11_let_178 : decode cX11_let 178 = .ok (.iadd, 1) := by decide +kernel
theorem dX11_let_179 : decode cX11_let 179 = .ok (.bipush 100, 2) := by decide +kernel
theorem dX11_let_181 : decode cX11_let 181 = .ok (.iload 6, 2) := by decide +kernel
theorem dX11_let_183 : decode cX11_let 183 = .ok (.bipush 10, 2) := by decide +kernel
theorem dX11_let_185 : decode cX11_let 185 = .ok (.idiv, 1) := by decide +kernel
theorem dX11_let_186 : decode cX11_let 186 = .ok (.bipush 10, 2) := by decide +kernel
theorem dX11_let_188 : decode cX11_let 188 = .ok (.irem, 1) := by decide +kernel
theorem dX11_let_189 : decode cX11_let 189 = .ok (.imul, 1) := by decide +kernel
theorem dX11_let_190 : decode cX11_let 190 = .ok (.iadd, 1) := by decide +kernel
theorem dX11_let_191 : decode cX11_let 191 = .ok (.iload 6, 2) := by decide +kernel
theorem dX11_let_193 : decode cX11_let 193 = .ok (.bipush 10, 2) := by decide +kernel
theorem dX11_let_195 : decode cX11_let 195 = .ok (.irem, 1) := by decide +kernel
theorem dX11_let_196 : decode cX11_let 196 = .ok (.iadd, 1) := by decide +kernel
theorem dX11_let_197 : decode cX11_let 197 = .ok (.istore 4, 2) := by decide +kernel
theorem dX11_let_199 : decode cX11_let 199 = .ok (.iload_n 3, 1) := by decide +kernel
theorem dX11_let_200 : decode cX11_let 200 = .ok (.iconst 1, 1) := by decide +kernel
theorem dX11_let_201 : decode cX11_let 201 = .ok (.iadd, 1) := by decide +kernel
theorem dX11_let_202 : decode cX11_let 202 = .ok (.istore_n 3, 1) := by decide +kernel
theorem dX11_let_203 : decode cX11_let 203 = .ok (.iinc 6 1, 3) := by decide +kernel
theorem dX11_let_206 : decode cX11_let 206 = .ok (.goto (-123), 3) := by decide +kernel
theorem dX11_let_209 : decode cX11_let 209 = .ok (.iinc 5 1, 3) := by decide +kernel
theorem dX11_let_212 : decode cX11_let 212 = .ok (.goto (-144), 3) := by decide +kernel
theorem dX11_let_215 : decode cX11_let 215 = .ok (.iload_n 2, 1) := by decide +kernel
theorem dX11_let_216 : decode cX11_let 216 = .ok (.ifCond .ne 7, 3) := by decide +kernel
theorem dX11_let_219 : decode cX11_let 219 = .ok (.iload_n 3, 1) := by decide +kernel
theorem dX11_let_220 : decode cX11_let 220 = .ok (.goto 5, 3) := by decide +kernel
theorem dX11_let_223 : decode cX11_let 223 = .ok (.iload 4, 2) := by decide +kernel
theorem dX11_let_225 : decode cX11_let 225 = .ok (.ireturn, 1) := by decide +kernel
theorem dX11_port_0 : decode cX11_port 0 = .ok (.aload_n 0, 1) := by decide +kernel
theorem dX11_port_1 : decode cX11_port 1 = .ok (.iconst 0, 1) := by decide +kernel
theorem dX11_port_2 : decode cX11_port 2 = .ok (.putfield 141, 3) := by decide +kernel
theorem dX11_port_5 : decode cX11_port 5 = .ok (.aload_n 0, 1) := by decide +kernel
theorem dX11_port_6 : decode cX11_port 6 = .ok (.iload_n 1, 1) := by decide +kernel
theorem dX11_port_7 : decode cX11_port 7 = .ok (.iconst 1, 1) := by decide +kernel
theorem dX11_port_8 : decode cX11_port 8 = .ok (.sipush 400, 3) := by decide +kernel
theorem dX11_port_11 : decode cX11_port 11 = .ok (.invokevirtual 144, 3) := by decide +kernel
theorem dX11_port_14 : decode cX11_port 14 = .ok (.ifCond .eq 12, 3) := by decide +kernel
theorem dX11_port_17 : decode cX11_port 17 = .ok (.aload_n 0, 1) := by decide +kernel
theorem dX11_port_18 : decode cX11_port 18 = .ok (.getfield 393, 3) := by decide +kernel
theorem dX11_port_21 : decode cX11_port 21 = .ok (.bipush 6, 2) := by decide +kernel
theorem dX11_port_23 : decode cX11_port 23 = .ok (.if_icmp .ne 5, 3) := by decide +kernel
theorem dX11_port_26 : decode cX11_port 26 = .ok (.iconst (-1), 1) := by decide +kernel
theorem dX11_port_27 : decode cX11_port 27 = .ok (.ireturn, 1) := by decide +kernel
theorem dX11_port_28 : decode cX11_port 28 = .ok (.aload_n 0, 1) := by decide +kernel
theorem dX11_port_29 : decode cX11_port 29 = .ok (.getfield 126, 3) := by decide +kernel
theorem dX11_port_32 : decode cX11_port 32 = .ok (.aload_n 0, 1) := by decide +kernel
theorem dX11_port_33 : decode cX11_port 33 = .ok (.getfield 393, 3) := by decide +kernel
theorem dX11_port_36 : decode cX11_port 36 = .ok (.iload_n 1, 1) := by decide +kernel
theorem dX11_port_37 : decode cX11_port 37 = .ok (.iastore, 1) := by decide +kernel
theorem dX11_port_38 : decode cX11_port 38 = .ok (.aload_n 0, 1) := by decide +kernel
theorem dX11_port_39 : decode cX11_port 39 = .ok (.aload_n 0, 1) := by decide +kernel
theorem dX11_port_40 : decode cX11_port 40 = .ok (.getfield 393, 3) := by decide +kernel
theorem dX11_port_43 : decode cX11_port 43 = .ok (.iconst 1, 1) := by decide +kernel
theorem dX11_port_44 : decode cX11_port 44 = .ok (.iadd, 1) := by decide +kernel
theorem dX11_port_45 : decode cX11_port 45 = .ok (.putfield 393, 3) := by decide +kernel
theorem dX11_port_48 : decode cX11_port 48 = .ok (.aload_n 0, 1) := by decide +kernel
theorem dX11_port_49 : decode cX11_port 49 = .ok (.getfield 393, 3) := by decide +kernel
theorem dX11_port_52 : decode cX11_port 52 = .ok (.iconst 1, 1) := by decide +kernel
theorem dX11_port_53 : decode cX11_port 53 = .ok (.isub, 1) := by decide +kernel
theorem dX11_port_54 : decode cX11_port 54 = .ok (.ireturn, 1) := by decide +kernel
theorem dX11_lasts_0 : decode cX11_lasts 0 = .ok (.iconst 0, 1) := by decide +kernel
theorem dX11_lasts_1 : decode cX11_lasts 1 = .ok (.istore_n 2, 1) := by decide +kernel
theorem dX11_lasts_2 : decode cX11_lasts 2 = .ok (.iload_n 2, 1) := by decide +kernel
theorem dX11_lasts_3 : decode cX11_lasts 3 = .ok (.sipush 144, 3) := by decide +kernel
theorem dX11_lasts_6 : decode cX11_lasts 6 = .ok (.if_icmp .ge 73, 3) := by decide +kernel
theorem dX11_lasts_9 : decode cX11_lasts 9 = .ok (.aload_n 0, 1) := by decide +kernel
theorem dX11_lasts_10 : decode cX11_lasts 10 = .ok (.getfield 22, 3) := by decide +kernel
theorem dX11_lasts_13 : decode cX11_lasts 13 = .ok (.sipush 144, 3) := by decide +kernel
theorem dX11_lasts_16 : decode cX11_lasts 16 = .ok (.iload_n 2, 1) := by decide +kernel
theorem dX11_lasts_17 : decode cX11_lasts 17 = .ok (.iadd, 1) := by decide +kernel
theorem dX11_lasts_18 : decode cX11_lasts 18 = .ok (.aload_n 0, 1) := by decide +kernel
theorem dX11_lasts_19 : decode cX11_lasts 19 = .ok (.getfield 22, 3) := by decide +kernel
theorem dX11_lasts_22 : decode cX11_lasts 22 = .ok (.iload_n 2, 1) := by decide +kernel
theorem dX11_lasts_23 : decode cX11_lasts 23 = .ok (.iaload, 1) := by decide +kernel
theorem dX11_lasts_24 : decode cX11_lasts 24 = .ok (.iastore, 1) := by decide +kernel
theorem dX11_lasts_25 : decode cX11_lasts 25 = .ok (.aload_n 0, 1) := by decide +kernel
theorem dX11_lasts_26 : decode cX11_lasts 26 = .ok (.getfield 25, 3) := by decide +kernel
theorem dX11_lasts_29 : decode cX11_lasts 29 = .ok (.sipush 144, 3) := by decide +kernel
theorem dX11_lasts_32 : decode cX11_lasts 32 = .ok (.iload_n 2, 1) := by decide +kernel
theorem dX11_lasts_33 : decode cX11_lasts 33 = .ok (.iadd, 1) := by decide +kernel
theorem dX11_lasts_34 : decode cX11_lasts 34 = .ok (.aload_n 0, 1) := by decide +kernel
theorem dX11_lasts_35 : decode cX11_lasts 35 = .ok (.getfield 25, 3) := by decide +kernel
theorem dX11_lasts_38 : decode cX11_lasts 38 = .ok (.iload_n 2, 1) := by decide +kernel
theorem dX11_lasts_39 : decode cX11_lasts 39 = .ok (.iaload, 1) := by decide +kernel
theorem dX11_lasts_40 : decode cX11_lasts 40 = .ok (.iastore, 1) := by decide +kernel
theorem dX11_lasts_41 : decode cX11_lasts 41 = .ok (.aload_n 0, 1) := by decide +kernel
theorem dX11_lasts_42 : decode cX11_lasts 42 = .ok (.getfield 28, 3) := by decide +kernel
theorem dX11_lasts_45 : decode cX11_lasts 45 = .ok (.sipush 144, 3) := by decide +kernel
theorem dX11_lasts_48 : decode cX11_lasts 48 = .ok (.iload_n 2, 1) := by decide +kernel
theorem dX11_lasts_49 : decode cX11_lasts 49 = .ok (.iadd, 1) := by decide +kernel
theorem dX11_lasts_50 : decode cX11_lasts 50 = .ok (.aload_n 0, 1) := by decide +kernel
theorem dX11_lasts_51 : decode cX11_lasts 51 = .ok (.getfield 28, 3) := by decide +kernel
theorem dX11_lasts_54 : decode cX11_lasts 54 = .ok (.iload_n 2, 1) := by decide +kernel
theorem dX11_lasts_55 : decode cX11_lasts 55 = .ok (.iaload, 1) := by decide +kernel
theorem dX11_lasts_56 : decode cX11_lasts 56 = .ok (.iastore, 1) := by decide +kernel
theorem dX11_lasts_57 : decode cX11_lasts 57 = .ok (.aload_n 0, 1) := by decide +kernel
theorem dX11_lasts_58 : decode cX11_lasts 58 = .ok (.getfield 31, 3) := by decide +kernel
theorem dX11_lasts_61 : decode cX11_lasts 61 = .ok (.sipush 144, 3) := by decide +kernel
theorem dX11_lasts_64 : decode cX11_lasts 64 = .ok (.iload_n 2, 1) := by decide +kernel
theorem dX11_lasts_65 : decode cX11_lasts 65 = .ok (.iadd, 1) := by decide +kernel
theorem dX11_lasts_66 : decode cX11_lasts 66 = .ok (.aload_n 0, 1) := by decide +kernel
theorem dX11_lasts_67 : decode cX11_lasts 67 = .ok (.getfield 31, 3) := by decide +kernel
theorem dX11_lasts_70 : decode cX11_lasts 70 = .ok (.iload_n 2, 1) := by decide +kernel
theorem dX11_lasts_71 : decode cX11_lasts 71 = .ok (.baload, 1) := by decide +kernel
theorem dX11_lasts_72 : decode cX11_lasts 72 = .ok (.bastore, 1) := by decide +kernel
theorem dX11_lasts_73 : decode cX11_lasts 73 = .ok (.iinc 2 1, 3) := by decide +kernel
theorem dX11_lasts_76 : decode cX11_lasts 76 = .ok (.goto (-74), 3) := by decide +kernel
theorem dX11_lasts_79 : decode cX11_lasts 79 = .ok (.aload_n 0, 1) := by decide +kernel
theorem dX11_lasts_80 : decode cX11_lasts 80 = .ok (.getfield 35, 3) := by decide +kernel
theorem dX11_lasts_83 : decode cX11_lasts 83 = .ok (.iconst 1, 1) := by decide +kernel
theorem dX11_lasts_84 : decode cX11_lasts 84 = .ok (.aload_n 0, 1) := by decide +kernel
theorem dX11_lasts_85 : decode cX11_lasts 85 = .ok (.getfield 35, 3) := by decide +kernel
theorem dX11_lasts_88 : decode cX11_lasts 88 = .ok (.iconst 0, 1) := by decide +kernel
theorem dX11_lasts_89 : decode cX11_lasts 89 = .ok (.iaload, 1) := by decide +kernel
theorem dX11_lasts_90 : decode cX11_lasts 90 = .ok (.iastore, 1) := by decide +kernel
theorem dX11_lasts_91 : decode cX11_lasts 91 = .ok (.aload_n 0, 1) := by decide +kernel
theorem dX11_lasts_92 : decode cX11_lasts 92 = .ok (.getfield 38, 3) := by decide +kernel
theorem dX11_lasts_95 : decode cX11_lasts 95 = .ok (.iconst 1, 1) := by decide +kernel
theorem dX11_lasts_96 : decode cX11_lasts 96 = .ok (.aload_n 0, 1) := by decide +kernel
theorem dX11_lasts_97 : decode cX11_lasts 97 = .ok (.getfield 38, 3) := by decide +kernel
theorem dX11_lasts_100 : decode cX11_lasts 100 = .ok (.iconst 0, 1) := by decide +kernel
theorem dX11_lasts_101 : decode cX11_lasts 101 = .ok (.iaload, 1) := by decide +kernel
theorem dX11_lasts_102 : decode cX11_lasts 102 = .ok (.iastore, 1) := by decide +kernel
theorem dX11_lasts_103 : decode cX11_lasts 103 = .ok (.aload_n 0, 1) := by decide +kernel
theorem dX11_lasts_104 : decode cX11_lasts 104 = .ok (.getfield 41, 3) := by decide +kernel
theorem dX11_lasts_107 : decode cX11_lasts 107 = .ok (.iconst 1, 1) := by decide +kernel
theorem dX11_lasts_108 : decode cX11_lasts 108 = .ok (.aload_n 0, 1) := by decide +kernel
theorem dX11_lasts_109 : decode cX11_lasts 109 = .ok (.getfield 41, 3) := by decide +kernel
theorem dX11_lasts_112 : decode cX11_lasts 112 = .ok (.iconst 0, 1) := by decide +kernel
theorem dX11_lasts_113 : decode cX11_lasts 113 = .ok (.iaload, 1) := by decide +kernel
theorem dX11_lasts_114 : decode cX11_lasts 114 = .ok (.iastore, 1) := by decide +kernel
theorem dX11_lasts_115 : decode cX11_lasts 115 = .ok (.aload_n 0, 1) := by decide +kernel
theorem dX11_lasts_116 : decode cX11_lasts 116 = .ok (.getfield 44, 3) := by decide +kernel
theorem dX11_lasts_119 : decode cX11_lasts 119 = .ok (.iconst 1, 1) := by decide +kernel
theorem dX11_lasts_120 : decode cX11_lasts 120 = .ok (.aload_n 0, 1) := by decide +kernel
theorem dX11_lasts_121 : decode cX11_lasts 121 = .ok (.getfield 44, 3) := by decide +kernel
theorem dX11_lasts_124 : decode cX11_lasts 124 = .ok (.iconst 0, 1) := by decide +kernel
theorem dX11_lasts_125 : decode cX11_lasts 125 = .ok (.iaload, 1) := by decide +kernel
theorem dX11_lasts_126 : decode cX11_lasts 126 = .ok (.iastore, 1) := by decide +kernel
theorem dX11_lasts_127 : decode cX11_lasts 127 = .ok (.iconst 0, 1) := by decide +kernel
theorem dX11_lasts_128 : decode cX11_lasts 128 = .ok (.istore_n 2, 1) := by decide +kernel
theorem dX11_lasts_129 : decode cX11_lasts 129 = .ok (.iload_n 2, 1) := by decide +kernel
theorem dX11_lasts_130 : decode cX11_lasts 130 = .ok (.iload_n 1, 1) := by decide +kernel
theorem dX11_lasts_131 : decode cX11_lasts 131 = .ok (.if_icmp .ge 30, 3) := by decide +kernel
theorem dX11_lasts_134 : decode cX11_lasts 134 = .ok (.aload_n 0, 1) := by decide +kernel
theorem dX11_lasts_135 : decode cX11_lasts 135 = .ok (.getfield 44, 3) := by decide +kernel
theorem dX11_lasts_138 : decode cX11_lasts 138 = .ok (.iconst 1, 1) := by decide +kernel
theorem dX11_lasts_139 : decode cX11_lasts 139 = .ok (.iaload, 1) := by decide +kernel
theorem dX11_lasts_140 : decode cX11_lasts 140 = .ok (.iconst (-1), 1) := by decide +kernel
theorem dX11_lasts_141 : decode cX11_lasts 141 = .ok (.if_icmp .ne 20, 3) := by decide +kernel
theorem dX11_lasts_144 : decode cX11_lasts 144 = .ok (.aload_n 0, 1) := by decide +kernel
theorem dX11_lasts_145 : decode cX11_lasts 145 = .ok (.iconst 1, 1) := by decide +kernel
theorem dX11_lasts_146 : decode cX11_lasts 146 = .ok (.aload_n 0, 1) := by decide +kernel
theorem dX11_lasts_147 : decode cX11_lasts 147 = .ok (.getfield 283, 3) := by decide +kernel
theorem dX11_lasts_150 : decode cX11_lasts 150 = .ok (.iload_n 2, 1) := by decide +kernel
theorem dX11_lasts_151 : decode cX11_lasts 151 = .ok (.iadd, 1) := by decide +kernel
theorem dX11_lasts_152 : decode cX11_lasts 152 = .ok (.invokevirtual 350, 3) := by decide +kernel
theorem dX11_lasts_155 : decode cX11_lasts 155 = .ok (.iinc 2 1, 3) := by decide +kernel
theorem dX11_lasts_158 : decode cX11_lasts 158 = .ok (.goto (-29), 3) := by decide +kernel
theorem dX11_lasts_161 : decode cX11_lasts 161 = .ok (.aload_n 0, 1) := by decide +kernel
theorem dX11_lasts_162 : decode cX11_lasts 162 = .ok (.getfield 44, 3) := by decide +kernel
theorem dX11_lasts_165 : decode cX11_lasts 165 = .ok (.iconst 1, 1) := by decide +kernel
theorem dX11_lasts_166 : decode cX11_lasts 166 = .ok (.iaload, 1) := by decide +kernel
theorem dX11_lasts_167 : decode cX11_lasts 167 = .ok (.iconst (-1), 1) := by decide +kernel
theorem dX11_lasts_168 : decode cX11_lasts 168 = .ok (.if_icmp .ne 7, 3) := by decide +kernel
theorem dX11_lasts_171 : decode cX11_lasts 171 = .ok (.iconst 1, 1) := by decide +kernel
theorem dX11_lasts_172 : decode cX11_lasts 172 = .ok (.goto 4, 3) := by decide +kernel
theorem dX11_lasts_175 : decode cX11_lasts 175 = .ok (.iconst 0, 1) := by decide +kernel
theorem dX11_lasts_176 : decode cX11_lasts 176 = .ok (.ireturn, 1) := by decide +kernel
theorem dX11_reach_0 : decode cX11_reach 0 = .ok (.aload_n 0, 1) := by decide +kernel
theorem dX11_reach_1 : decode cX11_reach 1 = .ok (.iconst 0, 1) := by decide +kernel
theorem dX11_reach_2 : decode cX11_reach 2 = .ok (.putfield 141, 3) := by decide +kernel
theorem dX11_reach_5 : decode cX11_reach 5 = .ok (.iload_n 1, 1) := by decide +kernel
theorem dX11_reach_6 : decode cX11_reach 6 = .ok (.iconst (-1), 1) := by decide +kernel
theorem dX11_reach_7 : decode cX11_reach 7 = .ok (.if_icmp .eq 18, 3) := by decide +kernel
theorem dX11_reach_10 : decode cX11_reach 10 = .ok (.aload_n 0, 1) := by decide +kernel
theorem dX11_reach_11 : decode cX11_reach 11 = .ok (.iload_n 1, 1) := by decide +kernel
theorem dX11_reach_12 : decode cX11_reach 12 = .ok (.iconst 0, 1) := by decide +kernel
theorem dX11_reach_13 : decode cX11_reach 13 = .ok (.aload_n 0, 1) := by decide +kernel
theorem dX11_reach_14 : decode cX11_reach 14 = .ok (.getfield 393, 3) := by decide +kernel
theorem dX11_reach_17 : decode cX11_reach 17 = .ok (.iconst 1, 1) := by decide +kernel
theorem dX11_reach_18 : decode cX11_reach 18 = .ok (.isub, 1) := by decide +kernel
theorem dX11_reach_19 : decode cX11_reach 19 = .ok (.invokevirtual 144, 3) := by decide +kernel
theorem dX11_reach_22 : decode cX11_reach 22 = .ok (.ifCond .eq 20, 3) := by decide +kernel
theorem dX11_reach_25 : decode cX11_reach 25 = .ok (.aload_n 0, 1) := by decide +kernel
theorem dX11_reach_26 : decode cX11_reach 26 = .ok (.getfield 347, 3) := by decide +kernel
theorem dX11_reach_29 : decode cX11_reach 29 = .ok (.ifCond .eq 13, 3) := by decide +kernel
theorem dX11_reach_32 : decode cX11_reach 32 = .ok (.aload_n 0, 1) := by decide +kernel
theorem dX11_reach_33 : decode cX11_reach 33 = .ok (.getfield 44, 3) := by decide +kernel
theorem dX11_reach_36 : decode cX11_reach 36 = .ok (.iconst 0, 1) := by decide +kernel
theorem dX11_reach_37 : decode cX11_reach 37 = .ok (.iaload, 1) := by decide +kernel
theorem dX11_reach_38 : decode cX11_reach 38 = .ok (.iconst (-1), 1) := by decide +kernel
theorem dX11_reach_39 : decode cX11_reach 39 = .ok (.if_icmp .eq 5, 3) := by decide +kernel
theorem dX11_reach_42 : decode cX11_reach 42 = .ok (.iconst (-1), 1) := by decide +kernel
theorem dX11_reach_43 : decode cX11_reach 43 = .ok (.ireturn, 1) := by decide +kernel
theorem dX11_reach_44 : decode cX11_reach 44 = .ok (.iload_n 1, 1) := by decide +kernel
theorem dX11_reach_45 : decode cX11_reach 45 = .ok (.iconst (-1), 1) := by decide +kernel
theorem dX11_reach_46 : decode cX11_reach 46 = .ok (.if_icmp .eq 43, 3) := by decide +kernel
theorem dX11_reach_49 : decode cX11_reach 49 = .ok (.aload_n 0, 1) := by decide +kernel
theorem dX11_reach_50 : decode cX11_reach 50 = .ok (.getfield 283, 3) := by decide +kernel
theorem dX11_reach_53 : decode cX11_reach 53 = .ok (.aload_n 0, 1) := by decide +kernel
theorem dX11_reach_54 : decode cX11_reach 54 = .ok (.getfield 126, 3) := by decide +kernel
theorem dX11_reach_57 : decode cX11_reach 57 = .ok (.iload_n 1, 1) := by decide +kernel
theorem dX11_reach_58 : decode cX11_reach 58 = .ok (.iaload, 1) := by decide +kernel
theorem dX11_reach_59 : decode cX11_reach 59 = .ok (.iadd, 1) := by decide +kernel
theorem dX11_reach_60 : decode cX11_reach 60 = .ok (.sipush 719, 3) := by decide +kernel
theorem dX11_reach_63 : decode cX11_reach 63 = .ok (.if_icmp .le 7, 3) := by decide +kernel
theorem dX11_reach_66 : decode cX11_reach 66 = .ok (.iconst (-1), 1) := by decide +kernel
theorem dX11_reach_67 : decode cX11_reach 67 = .ok (.goto 21, 3) := by decide +kernel
theorem dX11_reach_70 : decode cX11_reach 70 = .ok (.aload_n 0, 1) := by decide +kernel
theorem dX11_reach_71 : decode cX11_reach 71 = .ok (.aload_n 0, 1) := by decide +kernel
theorem dX11_reach_72 : decode cX11_reach 72 = .ok (.getfield 126, 3) := by decide +kernel
theorem dX11_reach_75 : decode cX11_reach 75 = .ok (.iload_n 1, 1) := by decide +kernel
theorem dX11_reach_76 : decode cX11_reach 76 = .ok (.iaload, 1) := by decide +kernel
theorem dX11_reach_77 : decode cX11_reach 77 = .ok (.invokevirtual 396, 3) := by decide +kernel
theorem dX11_reach_80 : decode cX11_reach 80 = .ok (.ifCond .eq 7, 3) := by decide +kernel
theorem dX11_reach_83 : decode cX11_reach 83 = .ok (.iconst 1, 1) := by decide +kernel
theorem dX11_reach_84 : decode cX11_reach 84 = .ok (.goto 4, 3) := by decide +kernel
theorem dX11_reach_87 : decode cX11_reach 87 = .ok (.iconst 0, 1) := by decide +kernel
theorem dX11_reach_88 : decode cX11_reach 88 = .ok (.ireturn, 1) := by decide +kernel
theorem dX11_reach_89 : decode cX11_reach 89 = .ok (.iconst (-1), 1) := by decide +kernel
theorem dX11_reach_90 : decode cX11_reach 90 = .ok (.istore_n 2, 1) := by decide +kernel
theorem dX11_reach_91 : decode cX11_reach 91 = .ok (.iconst 0, 1) := by decide +kernel
theorem dX11_reach_92 : decode cX11_reach 92 = .ok (.istore_n 3, 1) := by decide +kernel
theorem dX11_reach_93 : decode cX11_reach 93 = .ok (.iload_n 3, 1) := by decide +kernel
theorem dX11_reach_94 : decode cX11_reach 94 = .ok (.aload_n 0, 1) := by decide +kernel
theorem dX11_reach_95 : decode cX11_reach 95 = .ok (.getfield 393, 3) := by decide +kernel
theorem dX11_reach_98 : decode cX11_reach 98 = .ok (.if_icmp .ge 64, 3) := by decide +kernel
theorem dX11_reach_101 : decode cX11_reach 101 = .ok (.aload_n 0, 1) := by decide +kernel
theorem dX11_reach_102 : decode cX11_reach 102 = .ok (.getfield 283, 3) := by decide +kernel
theorem dX11_reach_105 : decode cX11_reach 105 = .ok (.aload_n 0, 1) := by decide +kernel
theorem dX11_reach_106 : decode cX11_reach 106 = .ok (.getfield 126, 3) := by decide +kernel
theorem dX11_reach_109 : decode cX11_reach 109 = .ok (.iload_n 3, 1) := by decide +kernel
theorem dX11_reach_110 : decode cX11_reach 110 = .ok (.iaload, 1) := by decide +kernel
theorem dX11_reach_111 : decode cX11_reach 111 = .ok (.iadd, 1) := by decide +kernel
theorem dX11_reach_112 : decode cX11_reach 112 = .ok (.sipush 719, 3) := by decide +kernel
theorem dX11_reach_115 : decode cX11_reach 115 = .ok (.if_icmp .gt 41, 3) := by decide +kernel
theorem dX11_reach_118 : decode cX11_reach 118 = .ok (.iload_n 2, 1) := by decide +kernel
theorem dX11_reach_119 : decode cX11_reach 119 = .ok (.iconst (-1), 1) := by decide +kernel
theorem dX11_reach_120 : decode cX11_reach 120 = .ok (.if_icmp .eq 21, 3) := by decide +kernel
theorem dX11_reach_123 : decode cX11_reach 123 = .ok (.aload_n 0, 1) := by decide +kernel
theorem dX11_reach_124 : decode cX11_reach 124 = .ok (.getfield 126, 3) := by decide +kernel
theorem dX11_reach_127 : decode cX11_reach 127 = .ok (.iload_n 3, 1) := by decide +kernel
theorem dX11_reach_128 : decode cX11_reach 128 = .ok (.iaload, 1) := by decide +kernel
theorem dX11_reach_129 : decode cX11_reach 129 = .ok (.aload_n 0, 1) := by decide +kernel
theorem dX11_reach_130 : decode cX11_reach 130 = .ok (.getfield 126, 3) := by decide +kernel
theorem dX11_reach_133 : decode cX11_reach 133 = .ok (.iload_n 2, 1) := by decide +kernel
theorem dX11_reach_134 : decode cX11_reach 134 = .ok (.iaload, 1) := by decide +kernel
theorem dX11_reach_135 : decode cX11_reach 135 = .ok (.if_icmp .lt 6, 3) := by decide +kernel
theorem dX11_reach_138 : decode cX11_reach 138 = .ok (.goto 18, 3) := by decide +kernel
theorem dX11_reach_141 : decode cX11_reach 141 = .ok (.aload_n 0, 1) := by decide +kernel
theorem dX11_reach_142 : decode cX11_reach 142 = .ok (.aload_n 0, 1) := by decide +kernel
theorem dX11_reach_143 : decode cX11_reach 143 = .ok (.getfield 126, 3) := by decide +kernel
theorem dX11_reach_146 : decode cX11_reach 146 = .ok (.iload_n 3, 1) := by decide +kernel
theorem dX11_reach_147 : decode cX11_reach 147 = .ok (.iaload, 1) := by decide +kernel
theorem dX11_reach_148 : decode cX11_reach 148 = .ok (.invokevirtual 396, 3) := by decide +kernel
theorem dX11_reach_151 : decode cX11_reach 151 = .ok (.ifCond .eq 5, 3) := by decide +kernel
theorem dX11_reach_154 : decode cX11_reach 154 = .ok (.iload_n 3, 1) := by decide +kernel
theorem dX11_reach_155 : decode cX11_reach 155 = .ok (.istore_n 2, 1) := by decide +kernel
theorem dX11_reach_156 : decode cX11_reach 156 = .ok (.iinc 3 1, 3) := by decide +kernel
theorem dX11_reach_159 : decode cX11_reach 159 = .ok (.goto (-66), 3) := by decide +kernel
theorem dX11_reach_162 : decode cX11_reach 162 = .ok (.iload_n 2, 1) := by decide +kernel
theorem dX11_reach_163 : decode cX11_reach 163 = .ok (.ireturn, 1) := by decide +kernel
theorem dX11_list_0 : decode cX11_list 0 = .ok (.aload_n 0, 1) := by decide +kernel
theorem dX11_list_1 : decode cX11_list 1 = .ok (.iconst 0, 1) := by decide +kernel
theorem dX11_list_2 : decode cX11_list 2 = .ok (.putfield 141, 3) := by decide +kernel
theorem dX11_list_5 : decode cX11_list 5 = .ok (.aload_n 0, 1) := by decide +kernel
theorem dX11_list_6 : decode cX11_list 6 = .ok (.iload_n 1, 1) := by decide +kernel
theorem dX11_list_7 : decode cX11_list 7 = .ok (.iconst 0, 1) := by decide +kernel
theorem dX11_list_8 : decode cX11_list 8 = .ok (.bipush 7, 2) := by decide +kernel
theorem dX11_list_10 : decode cX11_list 10 = .ok (.invokevirtual 144, 3) := by decide +kernel
theorem dX11_list_13 : decode cX11_list 13 = .ok (.ifCond .eq 34, 3) := by decide +kernel
theorem dX11_list_16 : decode cX11_list 16 = .ok (.aload_n 0, 1) := by decide +kernel
theorem dX11_list_17 : decode cX11_list 17 = .ok (.iload_n 2, 1) := by decide +kernel
theorem dX11_list_18 : decode cX11_list 18 = .ok (.iconst 0, 1) := by decide +kernel
theorem dX11_list_19 : decode cX11_list 19 = .ok (.bipush 11, 2) := by decide +kernel
theorem dX11_list_21 : decode cX11_list 21 = .ok (.invokevirtual 144, 3) := by decide +kernel
theorem dX11_list_24 : decode cX11_list 24 = .ok (.ifCond .eq 23, 3) := by decide +kernel
theorem dX11_list_27 : decode cX11_list 27 = .ok (.aload_n 0, 1) := by decide +kernel
theorem dX11_list_28 : decode cX11_list 28 = .ok (.iload_n 3, 1) := by decide +kernel
theorem dX11_list_29 : decode cX11_list 29 = .ok (.iconst 0, 1) := by decide +kernel
theorem dX11_list_30 : decode cX11_list 30 = .ok (.iconst 2, 1) := by decide +kernel
theorem dX11_list_31 : decode cX11_list 31 = .ok (.invokevirtual 144, 3) := by decide +kernel
theorem dX11_list_34 : decode cX11_list 34 = .ok (.ifCond .eq 13, 3) := by decide +kernel
theorem dX11_list_37 : decode cX11_list 37 = .ok (.aload_n 0, 1) := by decide +kernel
theorem dX11_list_38 : decode cX11_list 38 = .ok (.getfield 399, 3) := by decide +kernel
theorem dX11_list_41 : decode cX11_list 41 = .ok (.sipush 200, 3) := by decide +kernel
theorem dX11_list_44 : decode cX11_list 44 = .ok (.if_icmp .ne 5, 3) := by decide +kernel
theorem dX11_list_47 : decode cX11_list 47 = .ok (.iconst (-1), 1) := by decide +kernel
theorem dX11_list_48 : decode cX11_list 48 = .ok (.ireturn, 1) := by decide +kernel
theorem dX11_list_49 : decode cX11_list 49 = .ok (.aload_n 0, 1) := by decide +kernel
theorem dX11_list_50 : decode cX11_list 50 = .ok (.getfield 129, 3) := by decide +kernel
theorem dX11_list_53 : decode cX11_list 53 = .ok (.aload_n 0, 1) := by decide +kernel
theorem dX11_list_54 : decode cX11_list 54 = .ok (.getfield 399, 3) := by decide +kernel
theorem dX11_list_57 : decode cX11_list 57 = .ok (.iload_n 1, 1) := by decide +kernel
theorem dX11_list_58 : decode cX11_list 58 = .ok (.iastore, 1) := by decide +kernel
theorem dX11_list_59 : decode cX11_list 59 = .ok (.aload_n 0, 1) := by decide +kernel
theorem dX11_list_60 : decode cX11_list 60 = .ok (.getfield 132, 3) := by decide +kernel
theorem dX11_list_63 : decode cX11_list 63 = .ok (.aload_n 0, 1) := by decide +kernel
theorem dX11_list_64 : decode cX11_list 64 = .ok (.getfield 399, 3) := by decide +kernel
theorem dX11_list_67 : decode cX11_list 67 = .ok (.iload_n 2, 1) := by decide +kernel
theorem dX11_list_68 : decode cX11_list 68 = .ok (.iastore, 1) := by decide +kernel
theorem dX11_list_69 : decode cX11_list 69 = .ok (.aload_n 0, 1) := by decide +kernel
theorem dX11_list_70 : decode cX11_list 70 = .ok (.getfield 135, 3) := by decide +kernel
theorem dX11_list_73 : decode cX11_list 73 = .ok (.aload_n 0, 1) := by decide +kernel
theorem dX11_list_74 : decode cX11_list 74 = .ok (.getfield 399, 3) := by decide +kernel
theorem dX11_list_77 : decode cX11_list 77 = .ok (.iload_n 3, 1) := by decide +kernel
theorem dX11_list_78 : decode cX11_list 78 = .ok (.iastore, 1) := by decide +kernel
theorem dX11_list_79 : decode cX11_list 79 = .ok (.aload_n 0, 1) := by decide +kernel
theorem dX11_list_80 : decode cX11_list 80 = .ok (.getfield 138, 3) := by decide +kernel
theorem dX11_list_83 : decode cX11_list 83 = .ok (.aload_n 0, 1) := by decide +kernel
theorem dX11_list_84 : decode cX11_list 84 = .ok (.getfield 399, 3) := by decide +kernel
theorem dX11_list_87 : decode cX11_list 87 = .ok (.iload 4, 2) := by decide +kernel
theorem dX11_list_89 : decode cX11_list 89 = .ok (.bastore, 1) := by decide +kernel
theorem dX11_list_90 : decode cX11_list 90 = .ok (.aload_n 0, 1) := by decide +kernel
theorem dX11_list_91 : decode cX11_list 91 = .ok (.aload_n 0, 1) := by decide +kernel
theorem dX11_list_92 : decode cX11_list 92 = .ok (.getfield 399, 3) := by decide +kernel
theorem dX11_list_95 : decode cX11_list 95 = .ok (.iconst 1, 1) := by decide +kernel
theorem dX11_list_96 : decode cX11_list 96 = .ok (.iadd, 1) := by decide +kernel
theorem dX11_list_97 : decode cX11_list 97 = .ok (.putfield 399, 3) := by decide +kernel
theorem dX11_list_100 : decode cX11_list 100 = .ok (.aload_n 0, 1) := by decide +kernel
theorem dX11_list_101 : decode cX11_list 101 = .ok (.getfield 399, 3) := by decide +kernel
theorem dX11_list_104 : decode cX11_list 104 = .ok (.ireturn, 1) := by decide +kernel
theorem dX11_countOf_0 : decode cX11_countOf 0 = .ok (.iconst 0, 1) := by decide +kernel
theorem dX11_countOf_1 : decode cX11_countOf 1 = .ok (.istore 5, 2) := by decide +kernel
theorem dX11_countOf_3 : decode cX11_countOf 3 = .ok (.iconst 0, 1) := by decide +kernel
theorem dX11_countOf_4 : decode cX11_countOf 4 = .ok (.istore 6, 2) := by decide +kernel
theorem dX11_countOf_6 : decode cX11_countOf 6 = .ok (.iload 6, 2) := by decide +kernel
theorem dX11_countOf_8 : decode cX11_countOf 8 = .ok (.aload_n 0, 1) := by decide +kernel
theorem dX11_countOf_9 : decode cX11_countOf 9 = .ok (.getfield 399, 3) := by decide +kernel
theorem dX11_countOf_12 : decode cX11_countOf 12 = .ok (.if_icmp .ge 90, 3) := by decide +kernel
theorem dX11_countOf_15 : decode cX11_countOf 15 = .ok (.iload_n 1, 1) := by decide +kernel
theorem dX11_countOf_16 : decode cX11_countOf 16 = .ok (.iconst (-1), 1) := by decide +kernel
theorem dX11_countOf_17 : decode cX11_countOf 17 = .ok (.if_icmp .eq 14, 3) := by decide +kernel
theorem dX11_countOf_20 : decode cX11_countOf 20 = .ok (.aload_n 0, 1) := by decide +kernel
theorem dX11_countOf_21 : decode cX11_countOf 21 = .ok (.getfield 129, 3) := by decide +kernel
theorem dX11_countOf_24 : decode cX11_countOf 24 = .ok (.iload 6, 2) := by decide +kernel
theorem dX11_countOf_26 : decode cX11_countOf 26 = .ok (.iaload, 1) := by decide +kernel
theorem dX11_countOf_27 : decode cX11_countOf 27 = .ok (.iload_n 1, 1) := by decide +kernel
theorem dX11_countOf_28 : decode cX11_countOf 28 = .ok (.if_icmp .ne 39, 3) := by decide +kernel
theorem dX11_countOf_31 : decode cX11_countOf 31 = .ok (.iload_n 2, 1) := by decide +kernel
theorem dX11_countOf_32 : decode cX11_countOf 32 = .ok (.iconst (-1), 1) := by decide +kernel
theorem dX11_countOf_33 : decode cX11_countOf 33 = .ok (.if_icmp .eq 14, 3) := by decide +kernel
theorem dX11_countOf_36 : decode cX11_countOf 36 = .ok (.aload_n 0, 1) := by decide +kernel
theorem dX11_countOf_37 : decode cX11_countOf 37 = .ok (.getfield 132, 3) := by decide +kernel
theorem dX11_countOf_40 : decode cX11_countOf 40 = .ok (.iload 6, 2) := by decide +kernel
theorem dX11_countOf_42 : decode cX11_countOf 42 = .ok (.iaload, 1) := by decide +kernel
theorem dX11_countOf_43 : decode cX11_countOf 43 = .ok (.iload_n 2, 1) := by decide +kernel
theorem dX11_countOf_44 : decode cX11_countOf 44 = .ok (.if_icmp .ne 23, 3) := by decide +kernel
theorem dX11_countOf_47 : decode cX11_countOf 47 = .ok (.iload_n 3, 1) := by decide +kernel
theorem dX11_countOf_48 : decode cX11_countOf 48 = .ok (.iconst (-1), 1) := by decide +kernel
theorem dX11_countOf_49 : decode cX11_countOf 49 = .ok (.if_icmp .eq 14, 3) := by decide +kernel
theorem dX11_countOf_52 : decode cX11_countOf 52 = .ok (.aload_n 0, 1) := by decide +kernel
theorem dX11_countOf_53 : decode cX11_countOf 53 = .ok (.getfield 135, 3) := by decide +kernel
theorem dX11_countOf_56 : decode cX11_countOf 56 = .ok (.iload 6, 2) := by decide +kernel
theorem dX11_countOf_58 : decode cX11_countOf 58 = .ok (.iaload, 1) := by decide +kernel
theorem dX11_countOf_59 : decode cX11_countOf 59 = .ok (.iload_n 3, 1) := by decide +kernel
theorem dX11_countOf_60 : decode cX11_countOf 60 = .ok (.if_icmp .ne 7, 3) := by decide +kernel
theorem dX11_countOf_63 : decode cX11_countOf 63 = .ok (.iconst 1, 1) := by decide +kernel
theorem dX11_countOf_64 : decode cX11_countOf 64 = .ok (.goto 4, 3) := by decide +kernel
theorem dX11_countOf_67 : decode cX11_countOf 67 = .ok (.iconst 0, 1) := by decide +kernel
theorem dX11_countOf_68 : decode cX11_countOf 68 = .ok (.istore 7, 2) := by decide +kernel
theorem dX11_countOf_70 : decode cX11_countOf 70 = .ok (.iload 7, 2) := by decide +kernel
theorem dX11_countOf_72 : decode cX11_countOf 72 = .ok (.ifCond .eq 24, 3) := by decide +kernel
theorem dX11_countOf_75 : decode cX11_countOf 75 = .ok (.aload_n 0, 1) := by decide +kernel
theorem dX11_countOf_76 : decode cX11_countOf 76 = .ok (.getfield 138, 3) := by decide +kernel
theorem dX11_countOf_79 : decode cX11_countOf 79 = .ok (.iload 6, 2) := by decide +kernel
theorem dX11_countOf_81 : decode cX11_countOf 81 = .ok (.baload, 1) := by decide +kernel
theorem dX11_countOf_82 : decode cX11_countOf 82 = .ok (.ifCond .ne 8, 3) := by decide +kernel
theorem dX11_countOf_85 : decode cX11_countOf 85 = .ok (.iload 4, 2) := by decide +kernel
theorem dX11_countOf_87 : decode cX11_countOf 87 = .ok (.ifCond .ne 9, 3) := by decide +kernel
theorem dX11_countOf_90 : decode cX11_countOf 90 = .ok (.iload 5, 2) := by decide +kernel
theorem dX11_countOf_92 : decode cX11_countOf 92 = .ok (.iconst 1, 1) := by decide +kernel
theorem dX11_countOf_93 : decode cX11_countOf 93 = .ok (.iadd, 1) := by decide +kernel
theorem dX11_countOf_94 : decode cX11_countOf 94 = .ok (.istore 5, 2) := by decide +kernel
theorem dX11_countOf_96 : decode cX11_countOf 96 = .ok (.iinc 6 1, 3) := by decide +kernel
theorem dX11_countOf_99 : decode cX11_countOf 99 = .ok (.goto (-93), 3) := by decide +kernel
theorem dX11_countOf_102 : decode cX11_countOf 102 = .ok (.iload 5, 2) := by decide +kernel
theorem dX11_countOf_104 : decode cX11_countOf 104 = .ok (.ireturn, 1) := by decide +kernel
theorem dX11_worstHarbour_0 : decode cX11_worstHarbour 0 = .ok (.iconst (-1), 1) := by decide +kernel
theorem dX11_worstHarbour_1 : decode cX11_worstHarbour 1 = .ok (.istore_n 1, 1) := by decide +kernel
theorem dX11_worstHarbour_2 : decode cX11_worstHarbour 2 = .ok (.iconst 0, 1) := by decide +kernel
theorem dX11_worstHarbour_3 : decode cX11_worstHarbour 3 = .ok (.istore_n 2, 1) := by decide +kernel
theorem dX11_worstHarbour_4 : decode cX11_worstHarbour 4 = .ok (.iconst 1, 1) := by decide +kernel
theorem dX11_worstHarbour_5 : decode cX11_worstHarbour 5 = .ok (.istore_n 3, 1) := by decide +kernel
theorem dX11_worstHarbour_6 : decode cX11_worstHarbour 6 = .ok (.iconst 0, 1) := by decide +kernel
theorem dX11_worstHarbour_7 : decode cX11_worstHarbour 7 = .ok (.istore 4, 2) := by decide +kernel
theorem dX11_worstHarbour_9 : decode cX11_worstHarbour 9 = .ok (.iload 4, 2) := by decide +kernel
theorem dX11_worstHarbour_11 : decode cX11_worstHarbour 11 = .ok (.bipush 8, 2) := by decide +kernel
theorem dX11_worstHarbour_13 : decode cX11_worstHarbour 13 = .ok (.if_icmp .ge 69, 3) := by decide +kernel
theorem dX11_worstHarbour_16 : decode cX11_worstHarbour 16 = .ok (.aload_n 0, 1) := by decide +kernel
theorem dX11_worstHarbour_17 : decode cX11_worstHarbour 17 = .ok (.iload 4, 2) := by decide +kernel
theorem dX11_worstHarbour_19 : decode cX11_worstHarbour 19 = .ok (.iconst (-1), 1) := by decide +kernel
theorem dX11_worstHarbour_20 : decode cX11_worstHarbour 20 = .ok (.iconst (-1), 1) := by decide +kernel
theorem dX11_worstHarbour_21 : decode cX11_worstHarbour 21 = .ok (.iconst 0, 1) := by decide +kernel
theorem dX11_worstHarbour_22 : decode cX11_worstHarbour 22 = .ok (.invokevirtual 402, 3) := by decide +kernel
theorem dX11_worstHarbour_25 : decode cX11_worstHarbour 25 = .ok (.iconst 2, 1) := by decide +kernel
theorem dX11_worstHarbour_26 : decode cX11_worstHarbour 26 = .ok (.iadd, 1) := by decide +kernel
theorem dX11_worstHarbour_27 : decode cX11_worstHarbour 27 = .ok (.istore 5, 2) := by decide +kernel
theorem dX11_worstHarbour_29 : decode cX11_worstHarbour 29 = .ok (.aload_n 0, 1) := by decide +kernel
theorem dX11_worstHarbour_30 : decode cX11_worstHarbour 30 = .ok (.iload 4, 2) := by decide +kernel
theorem dX11_worstHarbour_32 : decode cX11_worstHarbour 32 = .ok (.iconst (-1), 1) := by decide +kernel
theorem dX11_worstHarbour_33 : decode cX11_worstHarbour 33 = .ok (.iconst (-1), 1) := by decide +kernel
theorem dX11_worstHarbour_34 : decode cX11_worstHarbour 34 = .ok (.iconst 1, 1) := by decide +kernel
theorem dX11_worstHarbour_35 : decode cX11_worstHarbour 35 = .ok (.invokevirtual 402, 3) := by decide +kernel
theorem dX11_worstHarbour_38 : decode cX11_worstHarbour 38 = .ok (.iconst 1, 1) := by decide +kernel
theorem dX11_worstHarbour_39 : decode cX11_worstHarbour 39 = .ok (.iadd, 1) := by decide +kernel
theorem dX11_worstHarbour_40 : decode cX11_worstHarbour 40 = .ok (.istore 6, 2) := by decide +kernel
theorem dX11_worstHarbour_42 : decode cX11_worstHarbour 42 = .ok (.iload 5, 2) := by decide +kernel
theorem dX11_worstHarbour_44 : decode cX11_worstHarbour 44 = .ok (.iconst 2, 1) := by decide +kernel
theorem dX11_worstHarbour_45 : decode cX11_worstHarbour 45 = .ok (.if_icmp .eq 31, 3) := by decide +kernel
theorem dX11_worstHarbour_48 : decode cX11_worstHarbour 48 = .ok (.iload_n 1, 1) := by decide +kernel
theorem dX11_worstHarbour_49 : decode cX11_worstHarbour 49 = .ok (.iconst (-1), 1) := by decide +kernel
theorem dX11_worstHarbour_50 : decode cX11_worstHarbour 50 = .ok (.if_icmp .eq 17, 3) := by decide +kernel
theorem dX11_worstHarbour_53 : decode cX11_worstHarbour 53 = .ok (.iload 6, 2) := by decide +kernel
theorem dX11_worstHarbour_55 : decode cX11_worstHarbour 55 = .ok (.iload_n 3, 1) := by decide +kernel
theorem dX11_worstHarbour_56 : decode cX11_worstHarbour 56 = .ok (.imul, 1) := by decide +kernel
theorem dX11_worstHarbour_57 : decode cX11_worstHarbour 57 = .ok (.iload_n 2, 1) := by decide +kernel
theorem dX11_worstHarbour_58 : decode cX11_worstHarbour 58 = .ok (.iload 5, 2) := by decide +kernel
theorem dX11_worstHarbour_60 : decode cX11_worstHarbour 60 = .ok (.imul, 1) := by decide +kernel
theorem dX11_worstHarbour_61 : decode cX11_worstHarbour 61 = .ok (.if_icmp .gt 6, 3) := by decide +kernel
theorem dX11_worstHarbour_64 : decode cX11_worstHarbour 64 = .ok (.goto 12, 3) := by decide +kernel
theorem dX11_worstHarbour_67 : decode cX11_worstHarbour 67 = .ok (.iload 4, 2) := by decide +kernel
theorem dX11_worstHarbour_69 : decode cX11_worstHarbour 69 = .ok (.istore_n 1, 1) := by decide +kernel
theorem dX11_worstHarbour_70 : decode cX11_worstHarbour 70 = .ok (.iload 6, 2) := by decide +kernel
theorem dX11_worstHarbour_72 : decode cX11_worstHarbour 72 = .ok (.istore_n 2, 1) := by decide +kernel
theorem dX11_worstHarbour_73 : decode cX11_worstHarbour 73 = .ok (.iload 5, 2) := by decide +kernel
theorem dX11_worstHarbour_75 : decode cX11_worstHarbour 75 = .ok (.istore_n 3, 1) := by decide +kernel
theorem dX11_worstHarbour_76 : decode cX11_worstHarbour 76 = .ok (.iinc 4 1, 3) := by decide +kernel
theorem dX11_worstHarbour_79 : decode cX11_worstHarbour 79 = .ok (.goto (-70), 3) := by decide +kernel
theorem dX11_worstHarbour_82 : decode cX11_worstHarbour 82 = .ok (.iload_n 1, 1) := by decide +kernel
theorem dX11_worstHarbour_83 : decode cX11_worstHarbour 83 = .ok (.ireturn, 1) := by decide +kernel
theorem dX11_risk_0 : decode cX11_risk 0 = .ok (.aload_n 0, 1) := by decide +kernel
theorem dX11_risk_1 : decode cX11_risk 1 = .ok (.iconst 0, 1) := by decide +kernel
theorem dX11_risk_2 : decode cX11_risk 2 = .ok (.putfield 141, 3) := by decide +kernel
theorem dX11_risk_5 : decode cX11_risk 5 = .ok (.iload 4, 2) := by decide +kernel
theorem dX11_risk_7 : decode cX11_risk 7 = .ok (.iconst 2, 1) := by decide +kernel
theorem dX11_risk_8 : decode cX11_risk 8 = .ok (.if_icmp .ne 8, 3) := by decide +kernel
theorem dX11_risk_11 : decode cX11_risk 11 = .ok (.aload_n 0, 1) := by decide +kernel
theorem dX11_risk_12 : decode cX11_risk 12 = .ok (.invokevirtual 406, 3) := by decide +kernel
theorem dX11_risk_15 : decode cX11_risk 15 = .ok (.ireturn, 1) := by decide +kernel
theorem dX11_risk_16 : decode cX11_risk 16 = .ok (.aload_n 0, 1) := by decide +kernel
theorem dX11_risk_17 : decode cX11_risk 17 = .ok (.iload_n 1, 1) := by decide +kernel
theorem dX11_risk_18 : decode cX11_risk 18 = .ok (.iconst (-1), 1) := by decide +kernel
theorem dX11_risk_19 : decode cX11_risk 19 = .ok (.bipush 7, 2) := by decide +kernel
theorem dX11_risk_21 : decode cX11_risk 21 = .ok (.invokevirtual 144, 3) := by decide +kernel
theorem dX11_risk_24 : decode cX11_risk 24 = .ok (.ifCond .eq 35, 3) := by decide +kernel
theorem dX11_risk_27 : decode cX11_risk 27 = .ok (.aload_n 0, 1) := by decide +kernel
theorem dX11_risk_28 : decode cX11_risk 28 = .ok (.iload_n 2, 1) := by decide +kernel
theorem dX11_risk_29 : decode cX11_risk 29 = .ok (.iconst (-1), 1) := by decide +kernel
theorem dX11_risk_30 : decode cX11_risk 30 = .ok (.bipush 11, 2) := by decide +kernel
theorem dX11_risk_32 : decode cX11_risk 32 = .ok (.invokevirtual 144, 3) := by decide +kernel
theorem dX11_risk_35 : decode cX11_risk 35 = .ok (.ifCond .eq 24, 3) := by decide +kernel
theorem dX11_risk_38 : decode cX11_risk 38 = .ok (.aload_n 0, 1) := by decide +kernel
theorem dX11_risk_39 : decode cX11_risk 39 = .ok (.iload_n 3, 1) := by decide +kernel
theorem dX11_risk_40 : decode cX11_risk 40 = .ok (.iconst (-1), 1) := by decide +kernel
theorem dX11_risk_41 : decode cX11_risk 41 = .ok (.iconst 2, 1) := by decide +kernel
theorem dX11_risk_42 : decode cX11_risk 42 = .ok (.invokevirtual 144, 3) := by decide +kernel
theorem dX11_risk_45 : decode cX11_risk 45 = .ok (.ifCond .eq 14, 3) := by decide +kernel
theorem dX11_risk_48 : decode cX11_risk 48 = .ok (.aload_n 0, 1) := by decide +kernel
theorem dX11_risk_49 : decode cX11_risk 49 = .ok (.iload 4, 2) := by decide +kernel
theorem dX11_risk_51 : decode cX11_risk 51 = .ok (.iconst 0, 1) := by decide +kernel
theorem dX11_risk_52 : decode cX11_risk 52 = .ok (.iconst 1, 1) := by decide +kernel
theorem dX11_risk_53 : decode cX11_risk 53 = .ok (.invokevirtual 144, 3) := by decide +kernel
theorem dX11_risk_56 : decode cX11_risk 56 = .ok (.ifCond .ne 5, 3) := by decide +kernel
theorem dX11_risk_59 : decode cX11_risk 59 = .ok (.iconst (-1), 1) := by decide +kernel
theorem dX11_risk_60 : decode cX11_risk 60 = .ok (.ireturn, 1) := by decide +kernel
theorem dX11_risk_61 : decode cX11_risk 61 = .ok (.iload 4, 2) := by decide +kernel
theorem dX11_risk_63 : decode cX11_risk 63 = .ok (.ifCond .ne 16, 3) := by decide +kernel
theorem dX11_risk_66 : decode cX11_risk 66 = .ok (.aload_n 0, 1) := by decide +kernel
theorem dX11_risk_67 : decode cX11_risk 67 = .ok (.iload_n 1, 1) := by decide +kernel
theorem dX11_risk_68 : decode cX11_risk 68 = .ok (.iload_n 2, 1) := by decide +kernel
theorem dX11_risk_69 : decode cX11_risk 69 = .ok (.iload_n 3, 1) := by decide +kernel
theorem dX11_risk_70 : decode cX11_risk 70 = .ok (.iconst 1, 1) := by decide +kernel
theorem dX11_risk_71 : decode cX11_risk 71 = .ok (.invokevirtual 402, 3) := by decide +kernel
theorem dX11_risk_74 : decode cX11_risk 74 = .ok (.iconst 1, 1) := by decide +kernel
theorem dX11_risk_75 : decode cX11_risk 75 = .ok (.iadd, 1) := by decide +kernel
theorem dX11_risk_76 : decode cX11_risk 76 = .ok (.goto 13, 3) := by decide +kernel
theorem dX11_risk_79 : decode cX11_risk 79 = .ok (.aload_n 0, 1) := by decide +kernel
theorem dX11_risk_80 : decode cX11_risk 80 = .ok (.iload_n 1, 1) := by decide +kernel
theorem dX11_risk_81 : decode cX11_risk 81 = .ok (.iload_n 2, 1) := by decide +kernel
theorem dX11_risk_82 : decode cX11_risk 82 = .ok (.iload_n 3, 1) := by decide +kernel
theorem dX11_risk_83 : decode cX11_risk 83 = .ok (.iconst 0, 1) := by decide +kernel
theorem dX11_risk_84 : decode cX11_risk 84 = .ok (.invokevirtual 402, 3) := by decide +kernel
theorem dX11_risk_87 : decode cX11_risk 87 = .ok (.iconst 2, 1) := by decide +kernel
theorem dX11_risk_88 : decode cX11_risk 88 = .ok (.iadd, 1) := by decide +kernel
theorem dX11_risk_89 : decode cX11_risk 89 = .ok (.ireturn, 1) := by decide +kernel
