theorem dX8_wetAt_0 : decode cX8_wetAt 0 = .ok (.aload_n 0, 1) := by decide +kernel
theorem dX8_wetAt_1 : decode cX8_wetAt 1 = .ok (.getfield 28, 3) := by decide +kernel
theorem dX8_wetAt_4 : decode cX8_wetAt 4 = .ok (.iload_n 1, 1) := by decide +kernel
theorem dX8_wetAt_5 : decode cX8_wetAt 5 = .ok (.iaload, 1) := by decide +kernel
theorem dX8_wetAt_6 : decode cX8_wetAt 6 = .ok (.ifCond .le 19, 3) := by decide +kernel
theorem dX8_wetAt_9 : decode cX8_wetAt 9 = .ok (.aload_n 0, 1) := by decide +kernel
theorem dX8_wetAt_10 : decode cX8_wetAt 10 = .ok (.getfield 32, 3) := by decide +kernel
theorem dX8_wetAt_13 : decode cX8_wetAt 13 = .ok (.iload_n 1, 1) := by decide +kernel
theorem dX8_wetAt_14 : decode cX8_wetAt 14 = .ok (.iaload, 1) := by decide +kernel
theorem dX8_wetAt_15 : decode cX8_wetAt 15 = .ok (.aload_n 0, 1) := by decide +kernel
theorem dX8_wetAt_16 : decode cX8_wetAt 16 = .ok (.getfield 28, 3) := by decide +kernel
theorem dX8_wetAt_19 : decode cX8_wetAt 19 = .ok (.iload_n 1, 1) := by decide +kernel
theorem dX8_wetAt_20 : decode cX8_wetAt 20 = .ok (.iaload, 1) := by decide +kernel
theorem dX8_wetAt_21 : decode cX8_wetAt 21 = .ok (.idiv, 1) := by decide +kernel
theorem dX8_wetAt_22 : decode cX8_wetAt 22 = .ok (.goto 4, 3) := by decide +kernel
theorem dX8_wetAt_25 : decode cX8_wetAt 25 = .ok (.iconst 0, 1) := by decide +kernel
theorem dX8_wetAt_26 : decode cX8_wetAt 26 = .ok (.ireturn, 1) := by decide +kernel
theorem dX10_within_0 : decode cX10_within 0 = .ok (.iload_n 0, 1) := by decide +kernel
theorem dX10_within_1 : decode cX10_within 1 = .ok (.ifCond .lt 12, 3) := by decide +kernel
theorem dX10_within_4 : decode cX10_within 4 = .ok (.iload_n 0, 1) := by decide +kernel
theorem dX10_within_5 : decode cX10_within 5 = .ok (.iload_n 1, 1) := by decide +kernel
theorem dX10_within_6 : decode cX10_within 6 = .ok (.if_icmp .ge 7, 3) := by decide +kernel
theorem dX10_within_9 : decode cX10_within 9 = .ok (.iconst 1, 1) := by decide +kernel
theorem dX10_within_10 : decode cX10_within 10 = .ok (.goto 4, 3) := by decide +kernel
theorem dX10_within_13 : decode cX10_within 13 = .ok (.iconst 0, 1) := by decide +kernel
theorem dX10_within_14 : decode cX10_within 14 = .ok (.ireturn, 1) := by decide +kernel
theorem dX10_heapCell_0 : decode cX10_heapCell 0 = .ok (.iload_n 0, 1) := by decide +kernel
theorem dX10_heapCell_1 : decode cX10_heapCell 1 = .ok (.bipush 8, 2) := by decide +kernel
theorem dX10_heapCell_3 : decode cX10_heapCell 3 = .ok (.invokestatic 85, 3) := by decide +kernel
theorem dX10_heapCell_6 : decode cX10_heapCell 6 = .ok (.ifCond .eq 20, 3) := by decide +kernel
theorem dX10_heapCell_9 : decode cX10_heapCell 9 = .ok (.iload_n 1, 1) := by decide +kernel
theorem dX10_heapCell_10 : decode cX10_heapCell 10 = .ok (.bipush 8, 2) := by decide +kernel
theorem dX10_heapCell_12 : decode cX10_heapCell 12 = .ok (.invokestatic 85, 3) := by decide +kernel
theorem dX10_heapCell_15 : decode cX10_heapCell 15 = .ok (.ifCond .eq 11, 3) := by decide +kernel
theorem dX10_heapCell_18 : decode cX10_heapCell 18 = .ok (.iload_n 2, 1) := by decide +kernel
theorem dX10_heapCell_19 : decode cX10_heapCell 19 = .ok (.iconst 4, 1) := by decide +kernel
theorem dX10_heapCell_20 : decode cX10_heapCell 20 = .ok (.invokestatic 85, 3) := by decide +kernel
theorem dX10_heapCell_23 : decode cX10_heapCell 23 = .ok (.ifCond .ne 5, 3) := by decide +kernel
theorem dX10_heapCell_26 : decode cX10_heapCell 26 = .ok (.iconst (-1), 1) := by decide +kernel
theorem dX10_heapCell_27 : decode cX10_heapCell 27 = .ok (.ireturn, 1) := by decide +kernel
theorem dX10_heapCell_28 : decode cX10_heapCell 28 = .ok (.iload_n 0, 1) := by decide +kernel
theorem dX10_heapCell_29 : decode cX10_heapCell 29 = .ok (.bipush 8, 2) := by decide +kernel
theorem dX10_heapCell_31 : decode cX10_heapCell 31 = .ok (.imul, 1) := by decide +kernel
theorem dX10_heapCell_32 : decode cX10_heapCell 32 = .ok (.iload_n 1, 1) := by decide +kernel
theorem dX10_heapCell_33 : decode cX10_heapCell 33 = .ok (.iadd, 1) := by decide +kernel
theorem dX10_heapCell_34 : decode cX10_heapCell 34 = .ok (.iconst 4, 1) := by decide +kernel
theorem dX10_heapCell_35 : decode cX10_heapCell 35 = .ok (.imul, 1) := by decide +kernel
theorem dX10_heapCell_36 : decode cX10_heapCell 36 = .ok (.iload_n 2, 1) := by decide +kernel
theorem dX10_heapCell_37 : decode cX10_heapCell 37 = .ok (.iadd, 1) := by decide +kernel
theorem dX10_heapCell_38 : decode cX10_heapCell 38 = .ok (.ireturn, 1) := by decide +kernel
theorem dX10_holdCell_0 : decode cX10_holdCell 0 = .ok (.iload_n 0, 1) := by decide +kernel
theorem dX10_holdCell_1 : decode cX10_holdCell 1 = .ok (.iconst 4, 1) := by decide +kernel
theorem dX10_holdCell_2 : decode cX10_holdCell 2 = .ok (.invokestatic 85, 3) := by decide +kernel
theorem dX10_holdCell_5 : decode cX10_holdCell 5 = .ok (.ifCond .eq 21, 3) := by decide +kernel
theorem dX10_holdCell_8 : decode cX10_holdCell 8 = .ok (.iload_n 1, 1) := by decide +kernel
theorem dX10_holdCell_9 : decode cX10_holdCell 9 = .ok (.bipush 6, 2) := by decide +kernel
theorem dX10_holdCell_11 : decode cX10_holdCell 11 = .ok (.invokestatic 85, 3) := by decide +kernel
theorem dX10_holdCell_14 : decode cX10_holdCell 14 = .ok (.ifCond .eq 12, 3) := by decide +kernel
theorem dX10_holdCell_17 : decode cX10_holdCell 17 = .ok (.iload_n 2, 1) := by decide +kernel
theorem dX10_holdCell_18 : decode cX10_holdCell 18 = .ok (.bipush 6, 2) := by decide +kernel
theorem dX10_holdCell_20 : decode cX10_holdCell 20 = .ok (.invokestatic 85, 3) := by decide +kernel
theorem dX10_holdCell_23 : decode cX10_holdCell 23 = .ok (.ifCond .ne 5, 3) := by decide +kernel
theorem dX10_holdCell_26 : decode cX10_holdCell 26 = .ok (.iconst (-1), 1) := by decide +kernel
theorem dX10_holdCell_27 : decode cX10_holdCell 27 = .ok (.ireturn, 1) := by decide +kernel
theorem dX10_holdCell_28 : decode cX10_holdCell 28 = .ok (.iload_n 0, 1) := by decide +kernel
theorem dX10_holdCell_29 : decode cX10_holdCell 29 = .ok (.bipush 6, 2) := by decide +kernel
theorem dX10_holdCell_31 : decode cX10_holdCell 31 = .ok (.imul, 1) := by decide +kernel
theorem dX10_holdCell_32 : decode cX10_holdCell 32 = .ok (.iload_n 1, 1) := by decide +kernel
theorem dX10_holdCell_33 : decode cX10_holdCell 33 = .ok (.iadd, 1) := by decide +kernel
theorem dX10_holdCell_34 : decode cX10_holdCell 34 = .ok (.bipush 6, 2) := by decide +kernel
theorem dX10_holdCell_36 : decode cX10_holdCell 36 = .ok (.imul, 1) := by decide +kernel
theorem dX10_holdCell_37 : decode cX10_holdCell 37 = .ok (.iload_n 2, 1) := by decide +kernel
theorem dX10_holdCell_38 : decode cX10_holdCell 38 = .ok (.iadd, 1) := by decide +kernel
theorem dX10_holdCell_39 : decode cX10_holdCell 39 = .ok (.ireturn, 1) := by decide +kernel
theorem dX10_cellOf_0 : decode cX10_cellOf 0 = .ok (.iload_n 0, 1) := by decide +kernel
theorem dX10_cellOf_1 : decode cX10_cellOf 1 = .ok (.iconst (-1), 1) := by decide +kernel
theorem dX10_cellOf_2 : decode cX10_cellOf 2 = .ok (.if_icmp .ne 12, 3) := by decide +kernel
theorem dX10_cellOf_5 : decode cX10_cellOf 5 = .ok (.iload_n 1, 1) := by decide +kernel
theorem dX10_cellOf_6 : decode cX10_cellOf 6 = .ok (.iload_n 2, 1) := by decide +kernel
theorem dX10_cellOf_7 : decode cX10_cellOf 7 = .ok (.iload_n 3, 1) := by decide +kernel
theorem dX10_cellOf_8 : decode cX10_cellOf 8 = .ok (.invokestatic 96, 3) := by decide +kernel
theorem dX10_cellOf_11 : decode cX10_cellOf 11 = .ok (.goto 9, 3) := by decide +kernel
theorem dX10_cellOf_14 : decode cX10_cellOf 14 = .ok (.iload_n 0, 1) := by decide +kernel
theorem dX10_cellOf_15 : decode cX10_cellOf 15 = .ok (.iload_n 1, 1) := by decide +kernel
theorem dX10_cellOf_16 : decode cX10_cellOf 16 = .ok (.iload_n 3, 1) := by decide +kernel
theorem dX10_cellOf_17 : decode cX10_cellOf 17 = .ok (.invokestatic 190, 3) := by decide +kernel
theorem dX10_cellOf_20 : decode cX10_cellOf 20 = .ok (.ireturn, 1) := by decide +kernel
theorem dX10_stacksOf_0 : decode cX10_stacksOf 0 = .ok (.iload_n 1, 1) := by decide +kernel
theorem dX10_stacksOf_1 : decode cX10_stacksOf 1 = .ok (.iconst (-1), 1) := by decide +kernel
theorem dX10_stacksOf_2 : decode cX10_stacksOf 2 = .ok (.if_icmp .ne 10, 3) := by decide +kernel
theorem dX10_stacksOf_5 : decode cX10_stacksOf 5 = .ok (.aload_n 0, 1) := by decide +kernel
theorem dX10_stacksOf_6 : decode cX10_stacksOf 6 = .ok (.getfield 21, 3) := by decide +kernel
theorem dX10_stacksOf_9 : decode cX10_stacksOf 9 = .ok (.goto 10, 3) := by decide +kernel
theorem dX10_stacksOf_12 : decode cX10_stacksOf 12 = .ok (.aload_n 0, 1) := by decide +kernel
theorem dX10_stacksOf_13 : decode cX10_stacksOf 13 = .ok (.getfield 28, 3) := by decide +kernel
theorem dX10_stacksOf_16 : decode cX10_stacksOf 16 = .ok (.getfield 196, 3) := by decide +kernel
theorem dX10_stacksOf_19 : decode cX10_stacksOf 19 = .ok (.areturn, 1) := by decide +kernel
theorem dX11_isIn_0 : decode cX11_isIn 0 = .ok (.iload_n 1, 1) := by decide +kernel
theorem dX11_isIn_1 : decode cX11_isIn 1 = .ok (.iload_n 2, 1) := by decide +kernel
theorem dX11_isIn_2 : decode cX11_isIn 2 = .ok (.if_icmp .lt 12, 3) := by decide +kernel
theorem dX11_isIn_5 : decode cX11_isIn 5 = .ok (.iload_n 1, 1) := by decide +kernel
theorem dX11_isIn_6 : decode cX11_isIn 6 = .ok (.iload_n 3, 1) := by decide +kernel
theorem dX11_isIn_7 : decode cX11_isIn 7 = .ok (.if_icmp .gt 7, 3) := by decide +kernel
theorem dX11_isIn_10 : decode cX11_isIn 10 = .ok (.iconst 1, 1) := by decide +kernel
theorem dX11_isIn_11 : decode cX11_isIn 11 = .ok (.goto 4, 3) := by decide +kernel
theorem dX11_isIn_14 : decode cX11_isIn 14 = .ok (.iconst 0, 1) := by decide +kernel
theorem dX11_isIn_15 : decode cX11_isIn 15 = .ok (.ireturn, 1) := by decide +kernel
theorem dX11_sort_0 : decode cX11_sort 0 = .ok (.aload_n 0, 1) := by decide +kernel
theorem dX11_sort_1 : decode cX11_sort 1 = .ok (.iconst 0, 1) := by decide +kernel
theorem dX11_sort_2 : decode cX11_sort 2 = .ok (.putfield 141, 3) := by decide +kernel
theorem dX11_sort_5 : decode cX11_sort 5 = .ok (.aload_n 0, 1) := by decide +kernel
theorem dX11_sort_6 : decode cX11_sort 6 = .ok (.iload_n 1, 1) := by decide +kernel
theorem dX11_sort_7 : decode cX11_sort 7 = .ok (.iconst 0, 1) := by decide +kernel
theorem dX11_sort_8 : decode cX11_sort 8 = .ok (.iconst 2, 1) := by decide +kernel
theorem dX11_sort_9 : decode cX11_sort 9 = .ok (.invokevirtual 144, 3) := by decide +kernel
theorem dX11_sort_12 : decode cX11_sort 12 = .ok (.ifCond .ne 5, 3) := by decide +kernel
theorem dX11_sort_15 : decode cX11_sort 15 = .ok (.iconst 0, 1) := by decide +kernel
theorem dX11_sort_16 : decode cX11_sort 16 = .ok (.ireturn, 1) := by decide +kernel
theorem dX11_sort_17 : decode cX11_sort 17 = .ok (.aload_n 0, 1) := by decide +kernel
theorem dX11_sort_18 : decode cX11_sort 18 = .ok (.iload_n 1, 1) := by decide +kernel
theorem dX11_sort_19 : decode cX11_sort 19 = .ok (.putfield 148, 3) := by decide +kernel
theorem dX11_sort_22 : decode cX11_sort 22 = .ok (.iconst 1, 1) := by decide +kernel
theorem dX11_sort_23 : decode cX11_sort 23 = .ok (.ireturn, 1) := by decide +kernel
theorem dX11_heapAt_0 : decode cX11_heapAt 0 = .ok (.aload_n 0, 1) := by decide +kernel
theorem dX11_heapAt_1 : decode cX11_heapAt 1 = .ok (.iload_n 1, 1) := by decide +kernel
theorem dX11_heapAt_2 : decode cX11_heapAt 2 = .ok (.iconst 0, 1) := by decide +kernel
theorem dX11_heapAt_3 : decode cX11_heapAt 3 = .ok (.bipush 7, 2) := by decide +kernel
theorem dX11_heapAt_5 : decode cX11_heapAt 5 = .ok (.invokevirtual 144, 3) := by decide +kernel
theorem dX11_heapAt_8 : decode cX11_heapAt 8 = .ok (.ifCond .eq 38, 3) := by decide +kernel
theorem dX11_heapAt_11 : decode cX11_heapAt 11 = .ok (.aload_n 0, 1) := by decide +kernel
theorem dX11_heapAt_12 : decode cX11_heapAt 12 = .ok (.iload_n 2, 1) := by decide +kernel
theorem dX11_heapAt_13 : decode cX11_heapAt 13 = .ok (.iconst 0, 1) := by decide +kernel
theorem dX11_heapAt_14 : decode cX11_heapAt 14 = .ok (.bipush 7, 2) := by decide +kernel
theorem dX11_heapAt_16 : decode cX11_heapAt 16 = .ok (.invokevirtual 144, 3) := by decide +kernel
theorem dX11_heapAt_19 : decode cX11_heapAt 19 = .ok (.ifCond .eq 27, 3) := by decide +kernel
theorem dX11_heapAt_22 : decode cX11_heapAt 22 = .ok (.aload_n 0, 1) := by decide +kernel
theorem dX11_heapAt_23 : decode cX11_heapAt 23 = .ok (.iload_n 3, 1) := by decide +kernel
theorem dX11_heapAt_24 : decode cX11_heapAt 24 = .ok (.iconst 0, 1) := by decide +kernel
theorem dX11_heapAt_25 : decode cX11_heapAt 25 = .ok (.iconst 3, 1) := by decide +kernel
theorem dX11_heapAt_26 : decode cX11_heapAt 26 = .ok (.invokevirtual 144, 3) := by decide +kernel
theorem dX11_heapAt_29 : decode cX11_heapAt 29 = .ok (.ifCond .eq 17, 3) := by decide +kernel
theorem dX11_heapAt_32 : decode cX11_heapAt 32 = .ok (.bipush 64, 2) := by decide +kernel
theorem dX11_heapAt_34 : decode cX11_heapAt 34 = .ok (.iload_n 3, 1) := by decide +kernel
theorem dX11_heapAt_35 : decode cX11_heapAt 35 = .ok (.imul, 1) := by decide +kernel
theorem dX11_heapAt_36 : decode cX11_heapAt 36 = .ok (.bipush 8, 2) := by decide +kernel
theorem dX11_heapAt_38 : decode cX11_heapAt 38 = .ok (.iload_n 2, 1) := by decide +kernel
theorem dX11_heapAt_39 : decode cX11_heapAt 39 = .ok (.imul, 1) := by decide +kernel
theorem dX11_heapAt_40 : decode cX11_heapAt 40 = .ok (.iadd, 1) := by decide +kernel
theorem dX11_heapAt_41 : decode cX11_heapAt 41 = .ok (.iload_n 1, 1) := by decide +kernel
theorem dX11_heapAt_42 : decode cX11_heapAt 42 = .ok (.iadd, 1) := by decide +kernel
theorem dX11_heapAt_43 : decode cX11_heapAt 43 = .ok (.goto 4, 3) := by decide +kernel
theorem dX11_heapAt_46 : decode cX11_heapAt 46 = .ok (.iconst (-1), 1) := by decide +kernel
theorem dX11_heapAt_47 : decode cX11_heapAt 47 = .ok (.ireturn, 1) := by decide +kernel
theorem dX11_heap_0 : decode cX11_heap 0 = .ok (.aload_n 0, 1) := by decide +kernel
theorem dX11_heap_1 : decode cX11_heap 1 = .ok (.iconst 0, 1) := by decide +kernel
theorem dX11_heap_2 : decode cX11_heap 2 = .ok (.putfield 141, 3) := by decide +kernel
theorem dX11_heap_5 : decode cX11_heap 5 = .ok (.aload_n 0, 1) := by decide +kernel
theorem dX11_heap_6 : decode cX11_heap 6 = .ok (.iload_n 1, 1) := by decide +kernel
theorem dX11_heap_7 : decode cX11_heap 7 = .ok (.iload_n 2, 1) := by decide +kernel
theorem dX11_heap_8 : decode cX11_heap 8 = .ok (.iload_n 3, 1) := by decide +kernel
theorem dX11_heap_9 : decode cX11_heap 9 = .ok (.invokevirtual 151, 3) := by decide +kernel
theorem dX11_heap_12 : decode cX11_heap 12 = .ok (.istore 6, 2) := by decide +kernel
theorem dX11_heap_14 : decode cX11_heap 14 = .ok (.iload 6, 2) := by decide +kernel
theorem dX11_heap_16 : decode cX11_heap 16 = .ok (.iconst (-1), 1) := by decide +kernel
theorem dX11_heap_17 : decode cX11_heap 17 = .ok (.if_icmp .eq 38, 3) := by decide +kernel
theorem dX11_heap_20 : decode cX11_heap 20 = .ok (.aload_n 0, 1) := by decide +kernel
theorem dX11_heap_21 : decode cX11_heap 21 = .ok (.iload 4, 2) := by decide +kernel
theorem dX11_heap_23 : decode cX11_heap 23 = .ok (.iconst 0, 1) := by decide +kernel
theorem dX11_heap_24 : decode cX11_heap 24 = .ok (.bipush 99, 2) := by decide +kernel
theorem dX11_heap_26 : decode cX11_heap 26 = .ok (.invokevirtual 144, 3) := by decide +kernel
theorem dX11_heap_29 : decode cX11_heap 29 = .ok (.ifCond .eq 26, 3) := by decide +kernel
theorem dX11_heap_32 : decode cX11_heap 32 = .ok (.aload_n 0, 1) := by decide +kernel
theorem dX11_heap_33 : decode cX11_heap 33 = .ok (.iload 5, 2) := by decide +kernel
theorem dX11_heap_35 : decode cX11_heap 35 = .ok (.iconst 0, 1) := by decide +kernel
theorem dX11_heap_36 : decode cX11_heap 36 = .ok (.sipush 9999, 3) := by decide +kernel
theorem dX11_heap_39 : decode cX11_heap 39 = .ok (.invokevirtual 144, 3) := by decide +kernel
theorem dX11_heap_42 : decode cX11_heap 42 = .ok (.ifCond .eq 13, 3) := by decide +kernel
theorem dX11_heap_45 : decode cX11_heap 45 = .ok (.iload 4, 2) := by decide +kernel
theorem dX11_heap_47 : decode cX11_heap 47 = .ok (.ifCond .ne 10, 3) := by decide +kernel
theorem dX11_heap_50 : decode cX11_heap 50 = .ok (.iload 5, 2) := by decide +kernel
theorem dX11_heap_52 : decode cX11_heap 52 = .ok (.ifCond .le 5, 3) := by decide +kernel
theorem dX11_heap_55 : decode cX11_heap 55 = .ok (.iconst 0, 1) := by decide +kernel
theorem dX11_heap_56 : decode cX11_heap 56 = .ok (.ireturn, 1) := by decide +kernel
theorem dX11_heap_57 : decode cX11_heap 57 = .ok (.iload 4, 2) := by decide +kernel
theorem dX11_heap_59 : decode cX11_heap 59 = .ok (.ifCond .le 20, 3) := by decide +kernel
theorem dX11_heap_62 : decode cX11_heap 62 = .ok (.iload_n 3, 1) := by decide +kernel
theorem dX11_heap_63 : decode cX11_heap 63 = .ok (.ifCond .le 16, 3) := by decide +kernel
theorem dX11_heap_66 : decode cX11_heap 66 = .ok (.aload_n 0, 1) := by decide +kernel
theorem dX11_heap_67 : decode cX11_heap 67 = .ok (.getfield 16, 3) := by decide +kernel
theorem dX11_heap_70 : decode cX11_heap 70 = .ok (.iload 6, 2) := by decide +kernel
theorem dX11_heap_72 : decode cX11_heap 72 = .ok (.bipush 64, 2) := by decide +kernel
theorem dX11_heap_74 : decode cX11_heap 74 = .ok (.isub, 1) := by decide +kernel
theorem dX11_heap_75 : decode cX11_heap 75 = .ok (.iaload, 1) := by decide +kernel
theorem dX11_heap_76 : decode cX11_heap 76 = .ok (.ifCond .eq 26, 3) := by decide +kernel
theorem dX11_heap_79 : decode cX11_heap 79 = .ok (.iload 4, 2) := by decide +kernel
theorem dX11_heap_81 : decode cX11_heap 81 = .ok (.ifCond .ne 23, 3) := by decide +kernel
theorem dX11_heap_84 : decode cX11_heap 84 = .ok (.iload_n 3, 1) := by decide +kernel
theorem dX11_heap_85 : decode cX11_heap 85 = .ok (.iconst 3, 1) := by decide +kernel
theorem dX11_heap_86 : decode cX11_heap 86 = .ok (.if_icmp .ge 18, 3) := by decide +kernel
theorem dX11_heap_89 : decode cX11_heap 89 = .ok (.aload_n 0, 1) := by decide +kernel
theorem dX11_heap_90 : decode cX11_heap 90 = .ok (.getfield 16, 3) := by decide +kernel
theorem dX11_heap_93 : decode cX11_heap 93 = .ok (.iload 6, 2) := by decide +kernel
theorem dX11_heap_95 : decode cX11_heap 95 = .ok (.bipush 64, 2) := by decide +kernel
theorem dX11_heap_97 : decode cX11_heap 97 = .ok (.iadd, 1) := by decide +kernel
theorem dX11_heap_98 : decode cX11_heap 98 = .ok (.iaload, 1) := by decide +kernel
theorem dX11_heap_99 : decode cX11_heap 99 = .ok (.ifCond .le 5, 3) := by decide +kernel
theorem dX11_heap_102 : decode cX11_heap 102 = .ok (.iconst 0, 1) := by decide +kernel
theorem dX11_heap_103 : decode cX11_heap 103 = .ok (.ireturn, 1) := by decide +kernel
theorem dX11_heap_104 : decode cX11_heap 104 = .ok (.aload_n 0, 1) := by decide +kernel
theorem dX11_heap_105 : decode cX11_heap 105 = .ok (.getfield 16, 3) := by decide +kernel
theorem dX11_heap_108 : decode cX11_heap 108 = .ok (.iload 6, 2) := by decide +kernel
theorem dX11_heap_110 : decode cX11_heap 110 = .ok (.iload 4, 2) := by decide +kernel
theorem dX11_heap_112 : decode cX11_heap 112 = .ok (.iastore, 1) := by decide +kernel
theorem dX11_heap_113 : decode cX11_heap 113 = .ok (.aload_n 0, 1) := by decide +kernel
theorem dX11_heap_114 : decode cX11_heap 114 = .ok (.getfield 19, 3) := by decide +kernel
theorem dX11_heap_117 : decode cX11_heap 117 = .ok (.iload 6, 2) := by decide +kernel
theorem dX11_heap_119 : decode cX11_heap 119 = .ok (.iload 5, 2) := by decide +kernel
theorem dX11_heap_121 : decode cX11_heap 121 = .ok (.iastore, 1) := by decide +kernel
theorem dX11_heap_122 : decode cX11_heap 122 = .ok (.iconst 1, 1) := by decide +kernel
theorem dX11_heap_123 : decode cX11_heap 123 = .ok (.ireturn, 1) := by decide +kernel
theorem dX11_heapHeight_0 : decode cX11_heapHeight 0 = .ok (.iconst 0, 1) := by decide +kernel
theorem dX11_heapHeight_1 : decode cX11_heapHeight 1 = .ok (.istore_n 2, 1) := by decide +kernel
theorem dX11_heapHeight_2 : decode cX11_heapHeight 2 = .ok (.iload_n 2, 1) := by decide +kernel
theorem dX11_heapHeight_3 : decode cX11_heapHeight 3 = .ok (.iconst 4, 1) := by decide +kernel
theorem dX11_heapHeight_4 : decode cX11_heapHeight 4 = .ok (.if_icmp .ge 24, 3) := by decide +kernel
theorem dX11_heapHeight_7 : decode cX11_heapHeight 7 = .ok (.aload_n 0, 1) := by decide +kernel
theorem dX11_heapHeight_8 : decode cX11_heapHeight 8 = .ok (.getfield 16, 3) := by decide +kernel
theorem dX11_heapHeight_11 : decode cX11_heapHeight 11 = .ok (.bipush 64, 2) := by decide +kernel
theorem dX11_heapHeight_13 : decode cX11_heapHeight 13 = .ok (.iload_n 2, 1) := by decide +kernel
theorem dX11_heapHeight_14 : decode cX11_heapHeight 14 = .ok (.imul, 1) := by decide +kernel
theorem dX11_heapHeight_15 : decode cX11_heapHeight 15 = .ok (.iload_n 1, 1) := by decide +kernel
theorem dX11_heapHeight_16 : decode cX11_heapHeight 16 = .ok (.iadd, 1) := by decide +kernel
theorem dX11_heapHeight_17 : decode cX11_heapHeight 17 = .ok (.iaload, 1) := by decide +kernel
theorem dX11_heapHeight_18 : decode cX11_heapHeight 18 = .ok (.ifCond .le 10, 3) := by decide +kernel
theorem dX11_heapHeight_21 : decode cX11_heapHeight 21 = .ok (.iload_n 2, 1) := by decide +kernel
theorem dX11_heapHeight_22 : decode cX11_heapHeight 22 = .ok (.iconst 1, 1) := by decide +kernel
theorem dX11_heapHeight_23 : decode cX11_heapHeight 23 = .ok (.iadd, 1) := by decide +kernel
theorem dX11_heapHeight_24 : decode cX11_heapHeight 24 = .ok (.istore_n 2, 1) := by decide +kernel
theorem dX11_heapHeight_25 : decode cX11_heapHeight 25 = .ok (.goto (-23), 3) := by decide +kernel
theorem dX11_heapHeight_28 : decode cX11_heapHeight 28 = .ok (.iload_n 2, 1) := by decide +kernel
theorem dX11_heapHeight_29 : decode cX11_heapHeight 29 = .ok (.ireturn, 1) := by decide +kernel
theorem dX7_tell_0 : decode cX7_tell 0 = .ok (.iload_n 1, 1) := by decide +kernel
theorem dX7_tell_1 : decode cX7_tell 1 = .ok (.bipush 30, 2) := by decide +kernel
theorem dX7_tell_3 : decode cX7_tell 3 = .ok (.invokestatic 18, 3) := by decide +kernel
theorem dX7_tell_6 : decode cX7_tell 6 = .ok (.ifCond .eq 21, 3) := by decide +kernel
theorem dX7_tell_9 : decode cX7_tell 9 = .ok (.iload_n 2, 1) := by decide +kernel
theorem dX7_tell_10 : decode cX7_tell 10 = .ok (.bipush 10, 2) := by decide +kernel
theorem dX7_tell_12 : decode cX7_tell 12 = .ok (.invokestatic 18, 3) := by decide +kernel
theorem dX7_tell_15 : decode cX7_tell 15 = .ok (.ifCond .eq 12, 3) := by decide +kernel
theorem dX7_tell_18 : decode cX7_tell 18 = .ok (.iload_n 3, 1) := by decide +kernel
theorem dX7_tell_19 : decode cX7_tell 19 = .ok (.bipush 10, 2) := by decide +kernel
theorem dX7_tell_21 : decode cX7_tell 21 = .ok (.invokestatic 18, 3) := by decide +kernel
theorem dX7_tell_24 : decode cX7_tell 24 = .ok (.ifCond .ne 5, 3) := by decide +kernel
theorem dX7_tell_27 : decode cX7_tell 27 = .ok (.iconst 0, 1) := by decide +kernel
theorem dX7_tell_28 : decode cX7_tell 28 = .ok (.ireturn, 1) := by decide +kernel
theorem dX7_tell_29 : decode cX7_tell 29 = .ok (.aload_n 0, 1) := by decide +kernel
theorem dX7_tell_30 : decode cX7_tell 30 = .ok (.getfield 11, 3) := by decide +kernel
theorem dX7_tell_33 : decode cX7_tell 33 = .ok (.iload_n 1, 1) := by decide +kernel
theorem dX7_tell_34 : decode cX7_tell 34 = .ok (.iload_n 2, 1) := by decide +kernel
theorem dX7_tell_35 : decode cX7_tell 35 = .ok (.iastore, 1) := by decide +kernel
theorem dX7_tell_36 : decode cX7_tell 36 = .ok (.aload_n 0, 1) := by decide +kernel
theorem dX7_tell_37 : decode cX7_tell 37 = .ok (.getfield 15, 3) := by decide +kernel
theorem dX7_tell_40 : decode cX7_tell 40 = .ok (.iload_n 1, 1) := by decide +kernel
theorem dX7_tell_41 : decode cX7_tell 41 = .ok (.iload_n 3, 1) := by decide +kernel
theorem dX7_tell_42 : decode cX7_tell 42 = .ok (.iastore, 1) := by decide +kernel
theorem dX7_tell_43 : decode cX7_tell 43 = .ok (.iconst 1, 1) := by decide +kernel
theorem dX7_tell_44 : decode cX7_tell 44 = .ok (.ireturn, 1) := by decide +kernel
theorem dX8_height_0 : decode cX8_height 0 = .ok (.iload_n 1, 1) := by decide +kernel
theorem dX8_height_1 : decode cX8_height 1 = .ok (.aload_n 0, 1) := by decide +kernel
theorem dX8_height_2 : decode cX8_height 2 = .ok (.getfield 9, 3) := by decide +kernel
theorem dX8_height_5 : decode cX8_height 5 = .ok (.invokestatic 53, 3) := by decide +kernel
theorem dX8_height_8 : decode cX8_height 8 = .ok (.ifCond .ne 5, 3) := by decide +kernel
theorem dX8_height_11 : decode cX8_height 11 = .ok (.iconst 0, 1) := by decide +kernel
theorem dX8_height_12 : decode cX8_height 12 = .ok (.ireturn, 1) := by decide +kernel
theorem dX8_height_13 : decode cX8_height 13 = .ok (.aload_n 0, 1) := by decide +kernel
theorem dX8_height_14 : decode cX8_height 14 = .ok (.getfield 15, 3) := by decide +kernel
theorem dX8_height_17 : decode cX8_height 17 = .ok (.iconst 1, 1) := by decide +kernel
theorem dX8_height_18 : decode cX8_height 18 = .ok (.isub, 1) := by decide +kernel
theorem dX8_height_19 : decode cX8_height 19 = .ok (.istore_n 2, 1) := by decide +kernel
theorem dX8_height_20 : decode cX8_height 20 = .ok (.iload_n 2, 1) := by decide +kernel
theorem dX8_height_21 : decode cX8_height 21 = .ok (.ifCond .lt 29, 3) := by decide +kernel
theorem dX8_height_24 : decode cX8_height 24 = .ok (.aload_n 0, 1) := by decide +kernel
theorem dX8_height_25 : decode cX8_height 25 = .ok (.getfield 28, 3) := by decide +kernel
theorem dX8_height_28 : decode cX8_height 28 = .ok (.iload_n 1, 1) := by decide +kernel
theorem dX8_height_29 : decode cX8_height 29 = .ok (.aload_n 0, 1) := by decide +kernel
theorem dX8_height_30 : decode cX8_height 30 = .ok (.getfield 15, 3) := by decide +kernel
theorem dX8_height_33 : decode cX8_height 33 = .ok (.imul, 1) := by decide +kernel
theorem dX8_height_34 : decode cX8_height 34 = .ok (.iload_n 2, 1) := by decide +kernel
theorem dX8_height_35 : decode cX8_height 35 = .ok (.iadd, 1) := by decide +kernel
theorem dX8_height_36 : decode cX8_height 36 = .ok (.iaload, 1) := by decide +kernel
theorem dX8_height_37 : decode cX8_height 37 = .ok (.ifCond .le 7, 3) := by decide +kernel
theorem dX8_height_40 : decode cX8_height 40 = .ok (.iload_n 2, 1) := by decide +kernel
theorem dX8_height_41 : decode cX8_height 41 = .ok (.iconst 1, 1) := by decide +kernel
theorem dX8_height_42 : decode cX8_height 42 = .ok (.iadd, 1) := by decide +kernel
theorem dX8_height_43 : decode cX8_height 43 = .ok (.ireturn, 1) := by decide +kernel
theorem dX8_height_44 : decode cX8_height 44 = .ok (.iinc 2 (-1), 3) := by decide +kernel
theorem dX8_height_47 : decode cX8_height 47 = .ok (.goto (-27), 3) := by decide +kernel
theorem dX8_height_50 : decode cX8_height 50 = .ok (.iconst 0, 1) := by decide +kernel
theorem dX8_height_51 : decode cX8_height 51 = .ok (.ireturn, 1) := by decide +kernel
theorem dX10_sort_0 : decode cX10_sort 0 = .ok (.iload_n 1, 1) := by decide +kernel
theorem dX10_sort_1 : decode cX10_sort 1 = .ok (.iconst 3, 1) := by decide +kernel
theorem dX10_sort_2 : decode cX10_sort 2 = .ok (.invokestatic 85, 3) := by decide +kernel
theorem dX10_sort_5 : decode cX10_sort 5 = .ok (.ifCond .ne 5, 3) := by decide +kernel
theorem dX10_sort_8 : decode cX10_sort 8 = .ok (.iconst 0, 1) := by decide +kernel
theorem dX10_sort_9 : decode cX10_sort 9 = .ok (.ireturn, 1) := by decide +kernel
theorem dX10_sort_10 : decode cX10_sort 10 = .ok (.aload_n 0, 1) := by decide +kernel
theorem dX10_sort_11 : decode cX10_sort 11 = .ok (.getfield 45, 3) := by decide +kernel
theorem dX10_sort_14 : decode cX10_sort 14 = .ok (.iload_n 1, 1) := by decide +kernel
theorem dX10_sort_15 : decode cX10_sort 15 = .ok (.putfield 89, 3) := by decide +kernel
theorem dX10_sort_18 : decode cX10_sort 18 = .ok (.iconst 1, 1) := by decide +kernel
theorem dX10_sort_19 : decode cX10_sort 19 = .ok (.ireturn, 1) := by decide +kernel
theorem dX10_sky_0 : decode cX10_sky 0 = .ok (.aload_n 0, 1) := by decide +kernel
theorem dX10_sky_1 : decode cX10_sky 1 = .ok (.getfield 12, 3) := by decide +kernel
theorem dX10_sky_4 : decode cX10_sky 4 = .ok (.iload_n 1, 1) := by decide +kernel
theorem dX10_sky_5 : decode cX10_sky 5 = .ok (.iload_n 2, 1) := by decide +kernel
theorem dX10_sky_6 : decode cX10_sky 6 = .ok (.iload_n 3, 1) := by decide +kernel
theorem dX10_sky_7 : decode cX10_sky 7 = .ok (.invokevirtual 92, 3) := by decide +kernel
theorem dX10_sky_10 : decode cX10_sky 10 = .ok (.ireturn, 1) := by decide +kernel
theorem dX10_heap_0 : decode cX10_heap 0 = .ok (.iload_n 1, 1) := by decide +kernel
theorem dX10_heap_1 : decode cX10_heap 1 = .ok (.iload_n 2, 1) := by decide +kernel
theorem dX10_heap_2 : decode cX10_heap 2 = .ok (.iload_n 3, 1) := by decide +kernel
theorem dX10_heap_3 : decode cX10_heap 3 = .ok (.invokestatic 96, 3) := by decide +kernel
theorem dX10_heap_6 : decode cX10_heap 6 = .ok (.istore 6, 2) := by decide +kernel
theorem dX10_heap_8 : decode cX10_heap 8 = .ok (.iload 6, 2) := by decide +kernel
theorem dX10_heap_10 : decode cX10_heap 10 = .ok (.iconst (-1), 1) := by decide +kernel
theorem dX10_heap_11 : decode cX10_heap 11 = .ok (.if_icmp .eq 24, 3) := by decide +kernel
theorem dX10_heap_14 : decode cX10_heap 14 = .ok (.iload 4, 2) := by decide +kernel
theorem dX10_heap_16 : decode cX10_heap 16 = .ok (.bipush 100, 2) := by decide +kernel
theorem dX10_heap_18 : decode cX10_heap 18 = .ok (.invokestatic 85, 3) := by decide +kernel
theorem dX10_heap_21 : decode cX10_heap 21 = .ok (.ifCond .eq 14, 3) := by decide +kernel
theorem dX10_heap_24 : decode cX10_heap 24 = .ok (.iload 5, 2) := by decide +kernel
theorem dX10_heap_26 : decode cX10_heap 26 = .ok (.sipush 10000, 3) := by decide +kernel
theorem dX10_heap_29 : decode cX10_heap 29 = .ok (.invokestatic 85, 3) := by decide +kernel
theorem dX10_heap_32 : decode cX10_heap 32 = .ok (.ifCond .ne 5, 3) := by decide +kernel
theorem dX10_heap_35 : decode cX10_heap 35 = .ok (.iconst 0, 1) := by decide +kernel
theorem dX10_heap_36 : decode cX10_heap 36 = .ok (.ireturn, 1) := by decide +kernel
theorem dX10_heap_37 : decode cX10_heap 37 = .ok (.aload_n 0, 1) := by decide +kernel
theorem dX10_heap_38 : decode cX10_heap 38 = .ok (.getfield 21, 3) := by decide +kernel
theorem dX10_heap_41 : decode cX10_heap 41 = .ok (.iload 6, 2) := by decide +kernel
theorem dX10_heap_43 : decode cX10_heap 43 = .ok (.iconst 4, 1) := by decide +kernel
theorem dX10_heap_44 : decode cX10_heap 44 = .ok (.idiv, 1) := by decide +kernel
theorem dX10_heap_45 : decode cX10_heap 45 = .ok (.invokevirtual 100, 3) := by decide +kernel
theorem dX10_heap_48 : decode cX10_heap 48 = .ok (.istore 7, 2) := by decide +kernel
theorem dX10_heap_50 : decode cX10_heap 50 = .ok (.iload 4, 2) := by decide +kernel
theorem dX10_heap_52 : decode cX10_heap 52 = .ok (.ifCond .le 12, 3) := by decide +kernel
theorem dX10_heap_55 : decode cX10_heap 55 = .ok (.iload_n 3, 1) := by decide +kernel
theorem dX10_heap_56 : decode cX10_heap 56 = .ok (.iload 7, 2) := by decide +kernel
theorem dX10_heap_58 : decode cX10_heap 58 = .ok (.if_icmp .le 21, 3) := by decide +kernel
theorem dX10_heap_61 : decode cX10_heap 61 = .ok (.goto 16, 3) := by decide +kernel
theorem dX10_heap_64 : decode cX10_heap 64 = .ok (.iload 5, 2) := by decide +kernel
theorem dX10_heap_66 : decode cX10_heap 66 = .ok (.ifCond .gt 11, 3) := by decide +kernel
theorem dX10_heap_69 : decode cX10_heap 69 = .ok (.iload_n 3, 1) := by decide +kernel
theorem dX10_heap_70 : decode cX10_heap 70 = .ok (.iconst 1, 1) := by decide +kernel
theorem dX10_heap_71 : decode cX10_heap 71 = .ok (.iadd, 1) := by decide +kernel
theorem dX10_heap_72 : decode cX10_heap 72 = .ok (.iload 7, 2) := by decide +kernel
theorem dX10_heap_74 : decode cX10_heap 74 = .ok (.if_icmp .ge 5, 3) := by decide +kernel
theorem dX10_heap_77 : decode cX10_heap 77 = .ok (.iconst 0, 1) := by decide +kernel
theorem dX10_heap_78 : decode cX10_heap 78 = .ok (.ireturn, 1) := by decide +kernel
theorem dX10_heap_79 : decode cX10_heap 79 = .ok (.aload_n 0, 1) := by decide +kernel
theorem dX10_heap_80 : decode cX10_heap 80 = .ok (.getfield 21, 3) := by decide +kernel
theorem dX10_heap_83 : decode cX10_heap 83 = .ok (.getfield 104, 3) := by decide +kernel
theorem dX10_heap_86 : decode cX10_heap 86 = .ok (.iload 6, 2) := by decide +kernel
theorem dX10_heap_88 : decode cX10_heap 88 = .ok (.iload 4, 2) := by decide +kernel
theorem dX10_heap_90 : decode cX10_heap 90 = .ok (.iastore, 1) := by decide +kernel
theorem dX10_heap_91 : decode cX10_heap 91 = .ok (.aload_n 0, 1) := by decide +kernel
theorem dX10_heap_92 : decode cX10_heap 92 = .ok (.getfield 21, 3) := by decide +kernel
theorem dX10_heap_95 : decode cX10_heap 95 = .ok (.getfield 107, 3) := by decide +kernel
theorem dX10_heap_98 : decode cX10_heap 98 = .ok (.iload 6, 2) := by decide +kernel
theorem dX10_heap_100 : decode cX10_heap 100 = .ok (.iload 5, 2) := by decide +kernel
theorem dX10_heap_102 : decode cX10_heap 102 = .ok (.iastore, 1) := by decide +kernel
theorem dX10_heap_103 : decode cX10_heap 103 = .ok (.iconst 1, 1) := by decide +kernel
theorem dX10_heap_104 : decode cX10_heap 104 = .ok (.ireturn, 1) := by decide +kernel
theorem dX10_cell_0 : decode cX10_cell 0 = .ok (.aload_n 0, 1) := by decide +kernel
theorem dX10_cell_1 : decode cX10_cell 1 = .ok (.iload_n 1, 1) := by decide +kernel
theorem dX10_cell_2 : decode cX10_cell 2 = .ok (.invokevirtual 110, 3) := by decide +kernel
theorem dX10_cell_5 : decode cX10_cell 5 = .ok (.astore 6, 2) := by decide +kernel
theorem dX10_cell_7 : decode cX10_cell 7 = .ok (.iload_n 1, 1) := by decide +kernel
theorem dX10_cell_8 : decode cX10_cell 8 = .ok (.iload_n 2, 1) := by decide +kernel
theorem dX10_cell_9 : decode cX10_cell 9 = .ok (.iload_n 3, 1) := by decide +kernel
theorem dX10_cell_10 : decode cX10_cell 10 = .ok (.iload 4, 2) := by decide +kernel
theorem dX10_cell_12 : decode cX10_cell 12 = .ok (.invokestatic 114, 3) := by decide +kernel
theorem dX10_cell_15 : decode cX10_cell 15 = .ok (.istore 7, 2) := by decide +kernel
theorem dX10_cell_17 : decode cX10_cell 17 = .ok (.iload 7, 2) := by decide +kernel
theorem dX10_cell_19 : decode cX10_cell 19 = .ok (.iconst (-1), 1) := by decide +kernel
theorem dX10_cell_20 : decode cX10_cell 20 = .ok (.if_icmp .ne 5, 3) := by decide +kernel
theorem dX10_cell_23 : decode cX10_cell 23 = .ok (.iconst (-1), 1) := by decide +kernel
theorem dX10_cell_24 : decode cX10_cell 24 = .ok (.ireturn, 1) := by decide +kernel
theorem dX10_cell_25 : decode cX10_cell 25 = .ok (.iload 5, 2) := by decide +kernel
theorem dX10_cell_27 : decode cX10_cell 27 = .ok (.tableswitch 77 0 4 #[33, 42, 51, 59, 68], 33) := by decide +kernel
theorem dX10_cell_60 : decode cX10_cell 60 = .ok (.aload 6, 2) := by decide +kernel
theorem dX10_cell_62 : decode cX10_cell 62 = .ok (.getfield 104, 3) := by decide +kernel
theorem dX10_cell_65 : decode cX10_cell 65 = .ok (.iload 7, 2) := by decide +kernel
theorem dX10_cell_67 : decode cX10_cell 67 = .ok (.iaload, 1) := by decide +kernel
theorem dX10_cell_68 : decode cX10_cell 68 = .ok (.ireturn, 1) := by decide +kernel
theorem dX10_cell_69 : decode cX10_cell 69 = .ok (.aload 6, 2) := by decide +kernel
theorem dX10_cell_71 : decode cX10_cell 71 = .ok (.getfield 107, 3) := by decide +kernel
theorem dX10_cell_74 : decode cX10_cell 74 = .ok (.iload 7, 2) := by decide +kernel
theorem dX10_cell_76 : decode cX10_cell 76 = .ok (.iaload, 1) := by decide +kernel
theorem dX10_cell_77 : decode cX10_cell 77 = .ok (.ireturn, 1) := by decide +kernel
theorem dX10_cell_78 : decode cX10_cell 78 = .ok (.aload 6, 2) := by decide +kernel
theorem dX10_cell_80 : decode cX10_cell 80 = .ok (.iload 7, 2) := by decide +kernel
theorem dX10_cell_82 : decode cX10_cell 82 = .ok (.invokevirtual 118, 3) := by decide +kernel
theorem dX10_cell_85 : decode cX10_cell 85 = .ok (.ireturn, 1) := by decide +kernel
theorem dX10_cell_86 : decode cX10_cell 86 = .ok (.aload 6, 2) := by decide +kernel
theorem dX10_cell_88 : decode cX10_cell 88 = .ok (.getfield 121, 3) := by decide +kernel
theorem dX10_cell_91 : decode cX10_cell 91 = .ok (.iload 7, 2) := by decide +kernel
theorem dX10_cell_93 : decode cX10_cell 93 = .ok (.iaload, 1) := by decide +kernel
theorem dX10_cell_94 : decode cX10_cell 94 = .ok (.ireturn, 1) := by decide +kernel
theorem dX10_cell_95 : decode cX10_cell 95 = .ok (.aload 6, 2) := by decide +kernel
theorem dX10_cell_97 : decode cX10_cell 97 = .ok (.getfield 124, 3) := by decide +kernel
theorem dX10_cell_100 : decode cX10_cell 100 = .ok (.iload 7, 2) := by decide +kernel
theorem dX10_cell_102 : decode cX10_cell 102 = .ok (.iaload, 1) := by decide +kernel
theorem dX10_cell_103 : decode cX10_cell 103 = .ok (.ireturn, 1) := by decide +kernel
theorem dX10_cell_104 : decode cX10_cell 104 = .ok (.iconst (-1), 1) := by decide +kernel
theorem dX10_cell_105 : decode cX10_cell 105 = .ok (.ireturn, 1) := by decide +kernel
