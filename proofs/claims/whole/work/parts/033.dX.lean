theorem dX10_init_0 : decode cX10_init 0 = .ok (.aload_n 0, 1) := by decide +kernel
theorem dX10_init_1 : decode cX10_init 1 = .ok (.invokespecial 3, 3) := by decide +kernel
theorem dX10_init_4 : decode cX10_init 4 = .ok (.aload_n 0, 1) := by decide +kernel
theorem dX10_init_5 : decode cX10_init 5 = .ok (.new 9, 3) := by decide +kernel
theorem dX10_init_8 : decode cX10_init 8 = .ok (.dup, 1) := by decide +kernel
theorem dX10_init_9 : decode cX10_init 9 = .ok (.invokespecial 11, 3) := by decide +kernel
theorem dX10_init_12 : decode cX10_init 12 = .ok (.putfield 12, 3) := by decide +kernel
theorem dX10_init_15 : decode cX10_init 15 = .ok (.aload_n 0, 1) := by decide +kernel
theorem dX10_init_16 : decode cX10_init 16 = .ok (.new 16, 3) := by decide +kernel
theorem dX10_init_19 : decode cX10_init 19 = .ok (.dup, 1) := by decide +kernel
theorem dX10_init_20 : decode cX10_init 20 = .ok (.bipush 64, 2) := by decide +kernel
theorem dX10_init_22 : decode cX10_init 22 = .ok (.iconst 4, 1) := by decide +kernel
theorem dX10_init_23 : decode cX10_init 23 = .ok (.iconst 1, 1) := by decide +kernel
theorem dX10_init_24 : decode cX10_init 24 = .ok (.invokespecial 18, 3) := by decide +kernel
theorem dX10_init_27 : decode cX10_init 27 = .ok (.putfield 21, 3) := by decide +kernel
theorem dX10_init_30 : decode cX10_init 30 = .ok (.aload_n 0, 1) := by decide +kernel
theorem dX10_init_31 : decode cX10_init 31 = .ok (.new 25, 3) := by decide +kernel
theorem dX10_init_34 : decode cX10_init 34 = .ok (.dup, 1) := by decide +kernel
theorem dX10_init_35 : decode cX10_init 35 = .ok (.invokespecial 27, 3) := by decide +kernel
theorem dX10_init_38 : decode cX10_init 38 = .ok (.putfield 28, 3) := by decide +kernel
theorem dX10_init_41 : decode cX10_init 41 = .ok (.aload_n 0, 1) := by decide +kernel
theorem dX10_init_42 : decode cX10_init 42 = .ok (.new 25, 3) := by decide +kernel
theorem dX10_init_45 : decode cX10_init 45 = .ok (.dup, 1) := by decide +kernel
theorem dX10_init_46 : decode cX10_init 46 = .ok (.invokespecial 27, 3) := by decide +kernel
theorem dX10_init_49 : decode cX10_init 49 = .ok (.putfield 32, 3) := by decide +kernel
theorem dX10_init_52 : decode cX10_init 52 = .ok (.aload_n 0, 1) := by decide +kernel
theorem dX10_init_53 : decode cX10_init 53 = .ok (.new 35, 3) := by decide +kernel
theorem dX10_init_56 : decode cX10_init 56 = .ok (.dup, 1) := by decide +kernel
theorem dX10_init_57 : decode cX10_init 57 = .ok (.invokespecial 37, 3) := by decide +kernel
theorem dX10_init_60 : decode cX10_init 60 = .ok (.putfield 38, 3) := by decide +kernel
theorem dX10_init_63 : decode cX10_init 63 = .ok (.aload_n 0, 1) := by decide +kernel
theorem dX10_init_64 : decode cX10_init 64 = .ok (.new 42, 3) := by decide +kernel
theorem dX10_init_67 : decode cX10_init 67 = .ok (.dup, 1) := by decide +kernel
theorem dX10_init_68 : decode cX10_init 68 = .ok (.invokespecial 44, 3) := by decide +kernel
theorem dX10_init_71 : decode cX10_init 71 = .ok (.putfield 45, 3) := by decide +kernel
theorem dX10_init_74 : decode cX10_init 74 = .ok (.aload_n 0, 1) := by decide +kernel
theorem dX10_init_75 : decode cX10_init 75 = .ok (.new 49, 3) := by decide +kernel
theorem dX10_init_78 : decode cX10_init 78 = .ok (.dup, 1) := by decide +kernel
theorem dX10_init_79 : decode cX10_init 79 = .ok (.invokespecial 51, 3) := by decide +kernel
theorem dX10_init_82 : decode cX10_init 82 = .ok (.putfield 52, 3) := by decide +kernel
theorem dX10_init_85 : decode cX10_init 85 = .ok (.aload_n 0, 1) := by decide +kernel
theorem dX10_init_86 : decode cX10_init 86 = .ok (.new 56, 3) := by decide +kernel
theorem dX10_init_89 : decode cX10_init 89 = .ok (.dup, 1) := by decide +kernel
theorem dX10_init_90 : decode cX10_init 90 = .ok (.invokespecial 58, 3) := by decide +kernel
theorem dX10_init_93 : decode cX10_init 93 = .ok (.putfield 59, 3) := by decide +kernel
theorem dX10_init_96 : decode cX10_init 96 = .ok (.aload_n 0, 1) := by decide +kernel
theorem dX10_init_97 : decode cX10_init 97 = .ok (.new 63, 3) := by decide +kernel
theorem dX10_init_100 : decode cX10_init 100 = .ok (.dup, 1) := by decide +kernel
theorem dX10_init_101 : decode cX10_init 101 = .ok (.invokespecial 65, 3) := by decide +kernel
theorem dX10_init_104 : decode cX10_init 104 = .ok (.putfield 66, 3) := by decide +kernel
theorem dX10_init_107 : decode cX10_init 107 = .ok (.aload_n 0, 1) := by decide +kernel
theorem dX10_init_108 : decode cX10_init 108 = .ok (.new 70, 3) := by decide +kernel
theorem dX10_init_111 : decode cX10_init 111 = .ok (.dup, 1) := by decide +kernel
theorem dX10_init_112 : decode cX10_init 112 = .ok (.invokespecial 72, 3) := by decide +kernel
theorem dX10_init_115 : decode cX10_init 115 = .ok (.putfield 73, 3) := by decide +kernel
theorem dX10_init_118 : decode cX10_init 118 = .ok (.aload_n 0, 1) := by decide +kernel
theorem dX10_init_119 : decode cX10_init 119 = .ok (.bipush 6, 2) := by decide +kernel
theorem dX10_init_121 : decode cX10_init 121 = .ok (.newarray .int, 2) := by decide +kernel
theorem dX10_init_123 : decode cX10_init 123 = .ok (.putfield 77, 3) := by decide +kernel
theorem dX10_init_126 : decode cX10_init 126 = .ok (.aload_n 0, 1) := by decide +kernel
theorem dX10_init_127 : decode cX10_init 127 = .ok (.iconst (-1), 1) := by decide +kernel
theorem dX10_init_128 : decode cX10_init 128 = .ok (.putfield 81, 3) := by decide +kernel
theorem dX10_init_131 : decode cX10_init 131 = .ok (.return_, 1) := by decide +kernel
theorem dX10_sort_0 : decode cX10_sort 0 = .ok (.iload_n 1, 1) := by decide +kernel
theorem dX10_sort_1 : decode cX10_sort 1 = .ok (.iconst 3, 1) := by decide +kernel
theorem dX10_sort_2 : decode cX10_sort 2 = .ok (.invokestatic 85, 3) := by decide +kernel
theorem dX10_sort_5 : decode cX10_sort 5 = .ok (.ifCond .ne 5, 3) := by decide +kernel
theorem dX10_sort_8 : decode cX10_sort 8 = .ok (.iconst 0, 1) := by decide +kernel
theorem dX10_sort_9 : decode cX10_sort 9 = .ok (.ireturn, 1) := by decide +kernel
theorem dX10_sort_10 : decode cX10_sort 10 = .ok (.aload_n 0, 1) := by decide +kernel
theorem dX10_sort_11 : decode cX10_sort 11 = .ok (.getfield 45, 3) := by decide +kernel
theorem dX10_sort_14 : decode cX10_sort 14 = .ok (.iload_n 1, 1) := by decide +kernel
theorem dX10_sort_15 : decode cX10_sort 15 = .ok (.putfield 89, 3) := by decide +kernel
theorem dX10_sort_18 : decode cX10_sort 18 = .ok (.iconst 1, 1) := by decide +kernel
theorem dX10_sort_19 : decode cX10_sort 19 = .ok (.ireturn, 1) := by decide +kernel
theorem dX10_sky_0 : decode cX10_sky 0 = .ok (.aload_n 0, 1) := by decide +kernel
theorem dX10_sky_1 : decode cX10_sky 1 = .ok (.getfield 12, 3) := by decide +kernel
theorem dX10_sky_4 : decode cX10_sky 4 = .ok (.iload_n 1, 1) := by decide +kernel
theorem dX10_sky_5 : decode cX10_sky 5 = .ok (.iload_n 2, 1) := by decide +kernel
theorem dX10_sky_6 : decode cX10_sky 6 = .ok (.iload_n 3, 1) := by decide +kernel
theorem dX10_sky_7 : decode cX10_sky 7 = .ok (.invokevirtual 92, 3) := by decide +kernel
theorem dX10_sky_10 : decode cX10_sky 10 = .ok (.ireturn, 1) := by decide +kernel
theorem dX10_heap_0 : decode cX10_heap 0 = .ok (.iload_n 1, 1) := by decide +kernel
theorem dX10_heap_1 : decode cX10_heap 1 = .ok (.iload_n 2, 1) := by decide +kernel
theorem dX10_heap_2 : decode cX10_heap 2 = .ok (.iload_n 3, 1) := by decide +kernel
theorem dX10_heap_3 : decode cX10_heap 3 = .ok (.invokestatic 96, 3) := by decide +kernel
theorem dX10_heap_6 : decode cX10_heap 6 = .ok (.istore 6, 2) := by decide +kernel
theorem dX10_heap_8 : decode cX10_heap 8 = .ok (.iload 6, 2) := by decide +kernel
theorem dX10_heap_10 : decode cX10_heap 10 = .ok (.iconst (-1), 1) := by decide +kernel
theorem dX10_heap_11 : decode cX10_heap 11 = .ok (.if_icmp .eq 24, 3) := by decide +kernel
theorem dX10_heap_14 : decode cX10_heap 14 = .ok (.iload 4, 2) := by decide +kernel
theorem dX10_heap_16 : decode cX10_heap 16 = .ok (.bipush 100, 2) := by decide +kernel
theorem dX10_heap_18 : decode cX10_heap 18 = .ok (.invokestatic 85, 3) := by decide +kernel
theorem dX10_heap_21 : decode cX10_heap 21 = .ok (.ifCond .eq 14, 3) := by decide +kernel
theorem dX10_heap_24 : decode cX10_heap 24 = .ok (.iload 5, 2) := by decide +kernel
theorem dX10_heap_26 : decode cX10_heap 26 = .ok (.sipush 10000, 3) := by decide +kernel
theorem dX10_heap_29 : decode cX10_heap 29 = .ok (.invokestatic 85, 3) := by decide +kernel
theorem dX10_heap_32 : decode cX10_heap 32 = .ok (.ifCond .ne 5, 3) := by decide +kernel
theorem dX10_heap_35 : decode cX10_heap 35 = .ok (.iconst 0, 1) := by decide +kernel
theorem dX10_heap_36 : decode cX10_heap 36 = .ok (.ireturn, 1) := by decide +kernel
theorem dX10_heap_37 : decode cX10_heap 37 = .ok (.aload_n 0, 1) := by decide +kernel
theorem dX10_heap_38 : decode cX10_heap 38 = .ok (.getfield 21, 3) := by decide +kernel
theorem dX10_heap_41 : decode cX10_heap 41 = .ok (.iload 6, 2) := by decide +kernel
theorem dX10_heap_43 : decode cX10_heap 43 = .ok (.iconst 4, 1) := by decide +kernel
theorem dX10_heap_44 : decode cX10_heap 44 = .ok (.idiv, 1) := by decide +kernel
theorem dX10_heap_45 : decode cX10_heap 45 = .ok (.invokevirtual 100, 3) := by decide +kernel
theorem dX10_heap_48 : decode cX10_heap 48 = .ok (.istore 7, 2) := by decide +kernel
theorem dX10_heap_50 : decode cX10_heap 50 = .ok (.iload 4, 2) := by decide +kernel
theorem dX10_heap_52 : decode cX10_heap 52 = .ok (.ifCond .le 12, 3) := by decide +kernel
theorem dX10_heap_55 : decode cX10_heap 55 = .ok (.iload_n 3, 1) := by decide +kernel
theorem dX10_heap_56 : decode cX10_heap 56 = .ok (.iload 7, 2) := by decide +kernel
theorem dX10_heap_58 : decode cX10_heap 58 = .ok (.if_icmp .le 21, 3) := by decide +kernel
theorem dX10_heap_61 : decode cX10_heap 61 = .ok (.goto 16, 3) := by decide +kernel
theorem dX10_heap_64 : decode cX10_heap 64 = .ok (.iload 5, 2) := by decide +kernel
theorem dX10_heap_66 : decode cX10_heap 66 = .ok (.ifCond .gt 11, 3) := by decide +kernel
theorem dX10_heap_69 : decode cX10_heap 69 = .ok (.iload_n 3, 1) := by decide +kernel
theorem dX10_heap_70 : decode cX10_heap 70 = .ok (.iconst 1, 1) := by decide +kernel
theorem dX10_heap_71 : decode cX10_heap 71 = .ok (.iadd, 1) := by decide +kernel
theorem dX10_heap_72 : decode cX10_heap 72 = .ok (.iload 7, 2) := by decide +kernel
theorem dX10_heap_74 : decode cX10_heap 74 = .ok (.if_icmp .ge 5, 3) := by decide +kernel
theorem dX10_heap_77 : decode cX10_heap 77 = .ok (.iconst 0, 1) := by decide +kernel
theorem dX10_heap_78 : decode cX10_heap 78 = .ok (.ireturn, 1) := by decide +kernel
theorem dX10_heap_79 : decode cX10_heap 79 = .ok (.aload_n 0, 1) := by decide +kernel
theorem dX10_heap_80 : decode cX10_heap 80 = .ok (.getfield 21, 3) := by decide +kernel
theorem dX10_heap_83 : decode cX10_heap 83 = .ok (.getfield 104, 3) := by decide +kernel
theorem dX10_heap_86 : decode cX10_heap 86 = .ok (.iload 6, 2) := by decide +kernel
theorem dX10_heap_88 : decode cX10_heap 88 = .ok (.iload 4, 2) := by decide +kernel
theorem dX10_heap_90 : decode cX10_heap 90 = .ok (.iastore, 1) := by decide +kernel
theorem dX10_heap_91 : decode cX10_heap 91 = .ok (.aload_n 0, 1) := by decide +kernel
theorem dX10_heap_92 : decode cX10_heap 92 = .ok (.getfield 21, 3) := by decide +kernel
theorem dX10_heap_95 : decode cX10_heap 95 = .ok (.getfield 107, 3) := by decide +kernel
theorem dX10_heap_98 : decode cX10_heap 98 = .ok (.iload 6, 2) := by decide +kernel
theorem dX10_heap_100 : decode cX10_heap 100 = .ok (.iload 5, 2) := by decide +kernel
theorem dX10_heap_102 : decode cX10_heap 102 = .ok (.iastore, 1) := by decide +kernel
theorem dX10_heap_103 : decode cX10_heap 103 = .ok (.iconst 1, 1) := by decide +kernel
theorem dX10_heap_104 : decode cX10_heap 104 = .ok (.ireturn, 1) := by decide +kernel
theorem dX10_cell_0 : decode cX10_cell 0 = .ok (.aload_n 0, 1) := by decide +kernel
theorem dX10_cell_1 : decode cX10_cell 1 = .ok (.iload_n 1, 1) := by decide +kernel
theorem dX10_cell_2 : decode cX10_cell 2 = .ok (.invokevirtual 110, 3) := by decide +kernel
theorem dX10_cell_5 : decode cX10_cell 5 = .ok (.astore 6, 2) := by decide +kernel
theorem dX10_cell_7 : decode cX10_cell 7 = .ok (.iload_n 1, 1) := by decide +kernel
theorem dX10_cell_8 : decode cX10_cell 8 = .ok (.iload_n 2, 1) := by decide +kernel
theorem dX10_cell_9 : decode cX10_cell 9 = .ok (.iload_n 3, 1) := by decide +kernel
theorem dX10_cell_10 : decode cX10_cell 10 = .ok (.iload 4, 2) := by decide +kernel
theorem dX10_cell_12 : decode cX10_cell 12 = .ok (.invokestatic 114, 3) := by decide +kernel
theorem dX10_cell_15 : decode cX10_cell 15 = .ok (.istore 7, 2) := by decide +kernel
theorem dX10_cell_17 : decode cX10_cell 17 = .ok (.iload 7, 2) := by decide +kernel
theorem dX10_cell_19 : decode cX10_cell 19 = .ok (.iconst (-1), 1) := by decide +kernel
theorem dX10_cell_20 : decode cX10_cell 20 = .ok (.if_icmp .ne 5, 3) := by decide +kernel
theorem dX10_cell_23 : decode cX10_cell 23 = .ok (.iconst (-1), 1) := by decide +kernel
theorem dX10_cell_24 : decode cX10_cell 24 = .ok (.ireturn, 1) := by decide +kernel
theorem dX10_cell_25 : decode cX10_cell 25 = .ok (.iload 5, 2) := by decide +kernel
theorem dX10_cell_27 : decode cX10_cell 27 = .ok (.tableswitch 77 0 4 #[33, 42, 51, 59, 68], 33) := by decide +kernel
theorem dX10_cell_60 : decode cX10_cell 60 = .ok (.aload 6, 2) := by decide +kernel
theorem dX10_cell_62 : decode cX10_cell 62 = .ok (.getfield 104, 3) := by decide +kernel
theorem dX10_cell_65 : decode cX10_cell 65 = .ok (.iload 7, 2) := by decide +kernel
theorem dX10_cell_67 : decode cX10_cell 67 = .ok (.iaload, 1) := by decide +kernel
theorem dX10_cell_68 : decode cX10_cell 68 = .ok (.ireturn, 1) := by decide +kernel
theorem dX10_cell_69 : decode cX10_cell 69 = .ok (.aload 6, 2) := by decide +kernel
theorem dX10_cell_71 : decode cX10_cell 71 = .ok (.getfield 107, 3) := by decide +kernel
theorem dX10_cell_74 : decode cX10_cell 74 = .ok (.iload 7, 2) := by decide +kernel
theorem dX10_cell_76 : decode cX10_cell 76 = .ok (.iaload, 1) := by decide +kernel
theorem dX10_cell_77 : decode cX10_cell 77 = .ok (.ireturn, 1) := by decide +kernel
theorem dX10_cell_78 : decode cX10_cell 78 = .ok (.aload 6, 2) := by decide +kernel
theorem dX10_cell_80 : decode cX10_cell 80 = .ok (.iload 7, 2) := by decide +kernel
theorem dX10_cell_82 : decode cX10_cell 82 = .ok (.invokevirtual 118, 3) := by decide +kernel
theorem dX10_cell_85 : decode cX10_cell 85 = .ok (.ireturn, 1) := by decide +kernel
theorem dX10_cell_86 : decode cX10_cell 86 = .ok (.aload 6, 2) := by decide +kernel
theorem dX10_cell_88 : decode cX10_cell 88 = .ok (.getfield 121, 3) := by decide +kernel
theorem dX10_cell_91 : decode cX10_cell 91 = .ok (.iload 7, 2) := by decide +kernel
theorem dX10_cell_93 : decode cX10_cell 93 = .ok (.iaload, 1) := by decide +kernel
theorem dX10_cell_94 : decode cX10_cell 94 = .ok (.ireturn, 1) := by decide +kernel
theorem dX10_cell_95 : decode cX10_cell 95 = .ok (.aload 6, 2) := by decide +kernel
theorem dX10_cell_97 : decode cX10_cell 97 = .ok (.getfield 124, 3) := by decide +kernel
theorem dX10_cell_100 : decode cX10_cell 100 = .ok (.iload 7, 2) := by decide +kernel
theorem dX10_cell_102 : decode cX10_cell 102 = .ok (.iaload, 1) := by decide +kernel
theorem dX10_cell_103 : decode cX10_cell 103 = .ok (.ireturn, 1) := by decide +kernel
theorem dX10_cell_104 : decode cX10_cell 104 = .ok (.iconst (-1), 1) := by decide +kernel
theorem dX10_cell_105 : decode cX10_cell 105 = .ok (.ireturn, 1) := by decide +kernel
theorem dX10_feed_0 : decode cX10_feed 0 = .ok (.aload_n 0, 1) := by decide +kernel
theorem dX10_feed_1 : decode cX10_feed 1 = .ok (.getfield 38, 3) := by decide +kernel
theorem dX10_feed_4 : decode cX10_feed 4 = .ok (.bipush 20, 2) := by decide +kernel
theorem dX10_feed_6 : decode cX10_feed 6 = .ok (.invokevirtual 127, 3) := by decide +kernel
theorem dX10_feed_9 : decode cX10_feed 9 = .ok (.ifCond .ne 5, 3) := by decide +kernel
theorem dX10_feed_12 : decode cX10_feed 12 = .ok (.iconst (-1), 1) := by decide +kernel
theorem dX10_feed_13 : decode cX10_feed 13 = .ok (.ireturn, 1) := by decide +kernel
theorem dX10_feed_14 : decode cX10_feed 14 = .ok (.aload_n 0, 1) := by decide +kernel
theorem dX10_feed_15 : decode cX10_feed 15 = .ok (.getfield 38, 3) := by decide +kernel
theorem dX10_feed_18 : decode cX10_feed 18 = .ok (.iload_n 1, 1) := by decide +kernel
theorem dX10_feed_19 : decode cX10_feed 19 = .ok (.invokevirtual 131, 3) := by decide +kernel
theorem dX10_feed_22 : decode cX10_feed 22 = .ok (.pop, 1) := by decide +kernel
theorem dX10_feed_23 : decode cX10_feed 23 = .ok (.aload_n 0, 1) := by decide +kernel
theorem dX10_feed_24 : decode cX10_feed 24 = .ok (.getfield 38, 3) := by decide +kernel
theorem dX10_feed_27 : decode cX10_feed 27 = .ok (.iload_n 2, 1) := by decide +kernel
theorem dX10_feed_28 : decode cX10_feed 28 = .ok (.invokevirtual 131, 3) := by decide +kernel
theorem dX10_feed_31 : decode cX10_feed 31 = .ok (.pop, 1) := by decide +kernel
theorem dX10_feed_32 : decode cX10_feed 32 = .ok (.aload_n 0, 1) := by decide +kernel
theorem dX10_feed_33 : decode cX10_feed 33 = .ok (.getfield 38, 3) := by decide +kernel
theorem dX10_feed_36 : decode cX10_feed 36 = .ok (.iload_n 3, 1) := by decide +kernel
theorem dX10_feed_37 : decode cX10_feed 37 = .ok (.invokevirtual 131, 3) := by decide +kernel
theorem dX10_feed_40 : decode cX10_feed 40 = .ok (.pop, 1) := by decide +kernel
theorem dX10_feed_41 : decode cX10_feed 41 = .ok (.aload_n 0, 1) := by decide +kernel
theorem dX10_feed_42 : decode cX10_feed 42 = .ok (.getfield 38, 3) := by decide +kernel
theorem dX10_feed_45 : decode cX10_feed 45 = .ok (.iload 4, 2) := by decide +kernel
theorem dX10_feed_47 : decode cX10_feed 47 = .ok (.invokevirtual 131, 3) := by decide +kernel
theorem dX10_feed_50 : decode cX10_feed 50 = .ok (.pop, 1) := by decide +kernel
theorem dX10_feed_51 : decode cX10_feed 51 = .ok (.aload_n 0, 1) := by decide +kernel
theorem dX10_feed_52 : decode cX10_feed 52 = .ok (.getfield 38, 3) := by decide +kernel
theorem dX10_feed_55 : decode cX10_feed 55 = .ok (.iload 5, 2) := by decide +kernel
theorem dX10_feed_57 : decode cX10_feed 57 = .ok (.invokevirtual 131, 3) := by decide +kernel
theorem dX10_feed_60 : decode cX10_feed 60 = .ok (.ireturn, 1) := by decide +kernel
theorem dX10_end_0 : decode cX10_end 0 = .ok (.aload_n 0, 1) := by decide +kernel
theorem dX10_end_1 : decode cX10_end 1 = .ok (.getfield 38, 3) := by decide +kernel
theorem dX10_end_4 : decode cX10_end 4 = .ok (.iload_n 1, 1) := by decide +kernel
theorem dX10_end_5 : decode cX10_end 5 = .ok (.invokevirtual 134, 3) := by decide +kernel
theorem dX10_end_8 : decode cX10_end 8 = .ok (.ireturn, 1) := by decide +kernel
theorem dX10_laws_0 : decode cX10_laws 0 = .ok (.aload_n 0, 1) := by decide +kernel
theorem dX10_laws_1 : decode cX10_laws 1 = .ok (.getfield 38, 3) := by decide +kernel
theorem dX10_laws_4 : decode cX10_laws 4 = .ok (.iconst 1, 1) := by decide +kernel
theorem dX10_laws_5 : decode cX10_laws 5 = .ok (.invokevirtual 137, 3) := by decide +kernel
theorem dX10_laws_8 : decode cX10_laws 8 = .ok (.ifCond .ne 5, 3) := by decide +kernel
theorem dX10_laws_11 : decode cX10_laws 11 = .ok (.iconst (-1), 1) := by decide +kernel
theorem dX10_laws_12 : decode cX10_laws 12 = .ok (.ireturn, 1) := by decide +kernel
theorem dX10_laws_13 : decode cX10_laws 13 = .ok (.aload_n 0, 1) := by decide +kernel
theorem dX10_laws_14 : decode cX10_laws 14 = .ok (.getfield 45, 3) := by decide +kernel
theorem dX10_laws_17 : decode cX10_laws 17 = .ok (.aload_n 0, 1) := by decide +kernel
theorem dX10_laws_18 : decode cX10_laws 18 = .ok (.getfield 38, 3) := by decide +kernel
theorem dX10_laws_21 : decode cX10_laws 21 = .ok (.aload_n 0, 1) := by decide +kernel
theorem dX10_laws_22 : decode cX10_laws 22 = .ok (.getfield 45, 3) := by decide +kernel
theorem dX10_laws_25 : decode cX10_laws 25 = .ok (.getfield 141, 3) := by decide +kernel
theorem dX10_laws_28 : decode cX10_laws 28 = .ok (.invokevirtual 145, 3) := by decide +kernel
theorem dX10_laws_31 : decode cX10_laws 31 = .ok (.putfield 141, 3) := by decide +kernel
theorem dX10_laws_34 : decode cX10_laws 34 = .ok (.aload_n 0, 1) := by decide +kernel
theorem dX10_laws_35 : decode cX10_laws 35 = .ok (.getfield 45, 3) := by decide +kernel
theorem dX10_laws_38 : decode cX10_laws 38 = .ok (.getfield 141, 3) := by decide +kernel
theorem dX10_laws_41 : decode cX10_laws 41 = .ok (.getfield 149, 3) := by decide +kernel
theorem dX10_laws_44 : decode cX10_laws 44 = .ok (.ireturn, 1) := by decide +kernel
theorem dX10_code_0 : decode cX10_code 0 = .ok (.aload_n 0, 1) := by decide +kernel
theorem dX10_code_1 : decode cX10_code 1 = .ok (.getfield 38, 3) := by decide +kernel
theorem dX10_code_4 : decode cX10_code 4 = .ok (.iconst 0, 1) := by decide +kernel
theorem dX10_code_5 : decode cX10_code 5 = .ok (.invokevirtual 137, 3) := by decide +kernel
theorem dX10_code_8 : decode cX10_code 8 = .ok (.ifCond .ne 5, 3) := by decide +kernel
theorem dX10_code_11 : decode cX10_code 11 = .ok (.iconst (-1), 1) := by decide +kernel
theorem dX10_code_12 : decode cX10_code 12 = .ok (.ireturn, 1) := by decide +kernel
theorem dX10_code_13 : decode cX10_code 13 = .ok (.aload_n 0, 1) := by decide +kernel
theorem dX10_code_14 : decode cX10_code 14 = .ok (.getfield 52, 3) := by decide +kernel
theorem dX10_code_17 : decode cX10_code 17 = .ok (.aload_n 0, 1) := by decide +kernel
theorem dX10_code_18 : decode cX10_code 18 = .ok (.getfield 38, 3) := by decide +kernel
theorem dX10_code_21 : decode cX10_code 21 = .ok (.aload_n 0, 1) := by decide +kernel
theorem dX10_code_22 : decode cX10_code 22 = .ok (.getfield 52, 3) := by decide +kernel
theorem dX10_code_25 : decode cX10_code 25 = .ok (.getfield 154, 3) := by decide +kernel
theorem dX10_code_28 : decode cX10_code 28 = .ok (.invokevirtual 145, 3) := by decide +kernel
theorem dX10_code_31 : decode cX10_code 31 = .ok (.putfield 154, 3) := by decide +kernel
theorem dX10_code_34 : decode cX10_code 34 = .ok (.aload_n 0, 1) := by decide +kernel
theorem dX10_code_35 : decode cX10_code 35 = .ok (.getfield 52, 3) := by decide +kernel
theorem dX10_code_38 : decode cX10_code 38 = .ok (.iconst 0, 1) := by decide +kernel
theorem dX10_code_39 : decode cX10_code 39 = .ok (.putfield 155, 3) := by decide +kernel
theorem dX10_code_42 : decode cX10_code 42 = .ok (.aload_n 0, 1) := by decide +kernel
theorem dX10_code_43 : decode cX10_code 43 = .ok (.getfield 52, 3) := by decide +kernel
theorem dX10_code_46 : decode cX10_code 46 = .ok (.getfield 154, 3) := by decide +kernel
theorem dX10_code_49 : decode cX10_code 49 = .ok (.getfield 149, 3) := by decide +kernel
theorem dX10_code_52 : decode cX10_code 52 = .ok (.ireturn, 1) := by decide +kernel
theorem dX10_fault_0 : decode cX10_fault 0 = .ok (.iload_n 1, 1) := by decide +kernel
theorem dX10_fault_1 : decode cX10_fault 1 = .ok (.ifCond .ne 11, 3) := by decide +kernel
theorem dX10_fault_4 : decode cX10_fault 4 = .ok (.aload_n 0, 1) := by decide +kernel
theorem dX10_fault_5 : decode cX10_fault 5 = .ok (.getfield 38, 3) := by decide +kernel
theorem dX10_fault_8 : decode cX10_fault 8 = .ok (.getfield 159, 3) := by decide +kernel
theorem dX10_fault_11 : decode cX10_fault 11 = .ok (.ireturn, 1) := by decide +kernel
theorem dX10_fault_12 : decode cX10_fault 12 = .ok (.iload_n 1, 1) := by decide +kernel
theorem dX10_fault_13 : decode cX10_fault 13 = .ok (.iconst 1, 1) := by decide +kernel
theorem dX10_fault_14 : decode cX10_fault 14 = .ok (.if_icmp .ne 13, 3) := by decide +kernel
theorem dX10_fault_17 : decode cX10_fault 17 = .ok (.aload_n 0, 1) := by decide +kernel
theorem dX10_fault_18 : decode cX10_fault 18 = .ok (.getfield 38, 3) := by decide +kernel
theorem dX10_fault_21 : decode cX10_fault 21 = .ok (.getfield 162, 3) := by decide +kernel
theorem dX10_fault_24 : decode cX10_fault 24 = .ok (.goto 4, 3) := by decide +kernel
theorem dX10_fault_27 : decode cX10_fault 27 = .ok (.iconst (-1), 1) := by decide +kernel
theorem dX10_fault_28 : decode cX10_fault 28 = .ok (.ireturn, 1) := by decide +kernel
theorem dX10_hours_0 : decode cX10_hours 0 = .ok (.iload_n 1, 1) := by decide +kernel
theorem dX10_hours_1 : decode cX10_hours 1 = .ok (.iconst 1, 1) := by decide +kernel
theorem dX10_hours_2 : decode cX10_hours 2 = .ok (.if_icmp .lt 21, 3) := by decide +kernel
theorem dX10_hours_5 : decode cX10_hours 5 = .ok (.iload_n 1, 1) := by decide +kernel
theorem dX10_hours_6 : decode cX10_hours 6 = .ok (.bipush 48, 2) := by decide +kernel
theorem dX10_hours_8 : decode cX10_hours 8 = .ok (.if_icmp .gt 15, 3) := by decide +kernel
theorem dX10_hours_11 : decode cX10_hours 11 = .ok (.aload_n 0, 1) := by decide +kernel
theorem dX10_hours_12 : decode cX10_hours 12 = .ok (.getfield 165, 3) := by decide +kernel
theorem dX10_hours_15 : decode cX10_hours 15 = .ok (.iload_n 1, 1) := by decide +kernel
theorem dX10_hours_16 : decode cX10_hours 16 = .ok (.iadd, 1) := by decide +kernel
theorem dX10_hours_17 : decode cX10_hours 17 = .ok (.sipush 719, 3) := by decide +kernel
theorem dX10_hours_20 : decode cX10_hours 20 = .ok (.if_icmp .le 5, 3) := by decide +kernel
theorem dX10_hours_23 : decode cX10_hours 23 = .ok (.iconst (-1), 1) := by decide +kernel
theorem dX10_hours_24 : decode cX10_hours 24 = .ok (.ireturn, 1) := by decide +kernel
theorem dX10_hours_25 : decode cX10_hours 25 = .ok (.iconst 0, 1) := by decide +kernel
theorem dX10_hours_26 : decode cX10_hours 26 = .ok (.istore_n 2, 1) := by decide +kernel
theorem dX10_hours_27 : decode cX10_hours 27 = .ok (.iload_n 2, 1) := by decide +kernel
theorem dX10_hours_28 : decode cX10_hours 28 = .ok (.iload_n 1, 1) := by decide +kernel
theorem dX10_hours_29 : decode cX10_hours 29 = .ok (.if_icmp .ge 95, 3) := by decide +kernel
theorem dX10_hours_32 : decode cX10_hours 32 = .ok (.aload_n 0, 1) := by decide +kernel
theorem dX10_hours_33 : decode cX10_hours 33 = .ok (.getfield 12, 3) := by decide +kernel
theorem dX10_hours_36 : decode cX10_hours 36 = .ok (.aload_n 0, 1) := by decide +kernel
theorem dX10_hours_37 : decode cX10_hours 37 = .ok (.getfield 165, 3) := by decide +kernel
theorem dX10_hours_40 : decode cX10_hours 40 = .ok (.invokevirtual 168, 3) := by decide +kernel
theorem dX10_hours_43 : decode cX10_hours 43 = .ok (.istore_n 3, 1) := by decide +kernel
theorem dX10_hours_44 : decode cX10_hours 44 = .ok (.aload_n 0, 1) := by decide +kernel
theorem dX10_hours_45 : decode cX10_hours 45 = .ok (.getfield 45, 3) := by decide +kernel
theorem dX10_hours_48 : decode cX10_hours 48 = .ok (.iload_n 3, 1) := by decide +kernel
theorem dX10_hours_49 : decode cX10_hours 49 = .ok (.aload_n 0, 1) := by decide +kernel
theorem dX10_hours_50 : decode cX10_hours 50 = .ok (.getfield 165, 3) := by decide +kernel
theorem dX10_hours_53 : decode cX10_hours 53 = .ok (.bipush 24, 2) := by decide +kernel
theorem dX10_hours_55 : decode cX10_hours 55 = .ok (.irem, 1) := by decide +kernel
theorem dX10_hours_56 : decode cX10_hours 56 = .ok (.invokevirtual 171, 3) := by decide +kernel
theorem dX10_hours_59 : decode cX10_hours 59 = .ok (.aload_n 0, 1) := by decide +kernel
theorem dX10_hours_60 : decode cX10_hours 60 = .ok (.getfield 21, 3) := by decide +kernel
theorem dX10_hours_63 : decode cX10_hours 63 = .ok (.aload_n 0, 1) := by decide +kernel
theorem dX10_hours_64 : decode cX10_hours 64 = .ok (.getfield 45, 3) := by decide +kernel
theorem dX10_hours_67 : decode cX10_hours 67 = .ok (.iload_n 3, 1) := by decide +kernel
theorem dX10_hours_68 : decode cX10_hours 68 = .ok (.invokevirtual 175, 3) := by decide +kernel
theorem dX10_hours_71 : decode cX10_hours 71 = .ok (.aload_n 0, 1) := by decide +kernel
theorem dX10_hours_72 : decode cX10_hours 72 = .ok (.getfield 21, 3) := by decide +kernel
theorem dX10_hours_75 : decode cX10_hours 75 = .ok (.aload_n 0, 1) := by decide +kernel
theorem dX10_hours_76 : decode cX10_hours 76 = .ok (.getfield 45, 3) := by decide +kernel
theorem dX10_hours_79 : decode cX10_hours 79 = .ok (.invokevirtual 179, 3) := by decide +kernel
theorem dX10_hours_82 : decode cX10_hours 82 = .ok (.aload_n 0, 1) := by decide +kernel
theorem dX10_hours_83 : decode cX10_hours 83 = .ok (.getfield 28, 3) := by decide +kernel
theorem dX10_hours_86 : decode cX10_hours 86 = .ok (.aload_n 0, 1) := by decide +kernel
theorem dX10_hours_87 : decode cX10_hours 87 = .ok (.getfield 45, 3) := by decide +kernel
theorem dX10_hours_90 : decode cX10_hours 90 = .ok (.aload_n 0, 1) := by decide +kernel
theorem dX10_hours_91 : decode cX10_hours 91 = .ok (.getfield 12, 3) := by decide +kernel
theorem dX10_hours_94 : decode cX10_hours 94 = .ok (.aload_n 0, 1) := by decide +kernel
theorem dX10_hours_95 : decode cX10_hours 95 = .ok (.getfield 165, 3) := by decide +kernel
theorem dX10_hours_98 : decode cX10_hours 98 = .ok (.invokevirtual 183, 3) := by decide +kernel
theorem dX10_hours_101 : decode cX10_hours 101 = .ok (.aload_n 0, 1) := by decide +kernel
theorem dX10_hours_102 : decode cX10_hours 102 = .ok (.getfield 165, 3) := by decide +kernel
theorem dX10_hours_105 : decode cX10_hours 105 = .ok (.invokevirtual 186, 3) := by decide +kernel
theorem dX10_hours_108 : decode cX10_hours 108 = .ok (.aload_n 0, 1) := by decide +kernel
theorem dX10_hours_109 : decode cX10_hours 109 = .ok (.dup, 1) := by decide +kernel
theorem dX10_hours_110 : decode cX10_hours 110 = .ok (.getfield 165, 3) := by decide +kernel
theorem dX10_hours_113 : decode cX10_hours 113 = .ok (.iconst 1, 1) := by decide +kernel
theorem dX10_hours_114 : decode cX10_hours 114 = .ok (.iadd, 1) := by decide +kernel
theorem dX10_hours_115 : decode cX10_hours 115 = .ok (.putfield 165, 3) := by decide +kernel
theorem dX10_hours_118 : decode cX10_hours 118 = .ok (.iinc 2 1, 3) := by decide +kernel
theorem dX10_hours_121 : decode cX10_hours 121 = .ok (.goto (-94), 3) := by decide +kernel
theorem dX10_hours_124 : decode cX10_hours 124 = .ok (.aload_n 0, 1) := by decide +kernel
theorem dX10_hours_125 : decode cX10_hours 125 = .ok (.getfield 165, 3) := by decide +kernel
theorem dX10_hours_128 : decode cX10_hours 128 = .ok (.ireturn, 1) := by decide +kernel
theorem dX10_load_0 : decode cX10_load 0 = .ok (.iload_n 1, 1) := by decide +kernel
theorem dX10_load_1 : decode cX10_load 1 = .ok (.iload_n 2, 1) := by decide +kernel
theorem dX10_load_2 : decode cX10_load 2 = .ok (.iconst 0, 1) := by decide +kernel
theorem dX10_load_3 : decode cX10_load 3 = .ok (.invokestatic 96, 3) := by decide +kernel
theorem dX10_load_6 : decode cX10_load 6 = .ok (.istore 5, 2) := by decide +kernel
theorem dX10_load_8 : decode cX10_load 8 = .ok (.iload_n 3, 1) := by decide +kernel
theorem dX10_load_9 : decode cX10_load 9 = .ok (.iload 4, 2) := by decide +kernel
theorem dX10_load_11 : decode cX10_load 11 = .ok (.iconst 0, 1) := by decide +kernel
theorem dX10_load_12 : decode cX10_load 12 = .ok (.invokestatic 190, 3) := by decide +kernel
theorem dX10_load_15 : decode cX10_load 15 = .ok (.istore 6, 2) := by decide +kernel
theorem dX10_load_17 : decode cX10_load 17 = .ok (.iload 5, 2) := by decide +kernel
theorem dX10_load_19 : decode cX10_load 19 = .ok (.iconst (-1), 1) := by decide +kernel
theorem dX10_load_20 : decode cX10_load 20 = .ok (.if_icmp .eq 19, 3) := by decide +kernel
theorem dX10_load_23 : decode cX10_load 23 = .ok (.iload 6, 2) := by decide +kernel
theorem dX10_load_25 : decode cX10_load 25 = .ok (.iconst (-1), 1) := by decide +kernel
theorem dX10_load_26 : decode cX10_load 26 = .ok (.if_icmp .eq 13, 3) := by decide +kernel
theorem dX10_load_29 : decode cX10_load 29 = .ok (.aload_n 0, 1) := by decide +kernel
theorem dX10_load_30 : decode cX10_load 30 = .ok (.getfield 28, 3) := by decide +kernel
theorem dX10_load_33 : decode cX10_load 33 = .ok (.getfield 193, 3) := by decide +kernel
theorem dX10_load_36 : decode cX10_load 36 = .ok (.ifCond .eq 5, 3) := by decide +kernel
theorem dX10_load_39 : decode cX10_load 39 = .ok (.iconst 0, 1) := by decide +kernel
theorem dX10_load_40 : decode cX10_load 40 = .ok (.ireturn, 1) := by decide +kernel
theorem dX10_load_41 : decode cX10_load 41 = .ok (.aload_n 0, 1) := by decide +kernel
theorem dX10_load_42 : decode cX10_load 42 = .ok (.getfield 21, 3) := by decide +kernel
theorem dX10_load_45 : decode cX10_load 45 = .ok (.iload 5, 2) := by decide +kernel
theorem dX10_load_47 : decode cX10_load 47 = .ok (.iconst 4, 1) := by decide +kernel
theorem dX10_load_48 : decode cX10_load 48 = .ok (.idiv, 1) := by decide +kernel
theorem dX10_load_49 : decode cX10_load 49 = .ok (.aload_n 0, 1) := by decide +kernel
theorem dX10_load_50 : decode cX10_load 50 = .ok (.getfield 28, 3) := by decide +kernel
theorem dX10_load_53 : decode cX10_load 53 = .ok (.getfield 196, 3) := by decide +kernel
theorem dX10_load_56 : decode cX10_load 56 = .ok (.iload 6, 2) := by decide +kernel
theorem dX10_load_58 : decode cX10_load 58 = .ok (.bipush 6, 2) := by decide +kernel
theorem dX10_load_60 : decode cX10_load 60 = .ok (.idiv, 1) := by decide +kernel
theorem dX10_load_61 : decode cX10_load 61 = .ok (.invokevirtual 199, 3) := by decide +kernel
theorem dX10_load_64 : decode cX10_load 64 = .ok (.ireturn, 1) := by decide +kernel
theorem dX10_arm_0 : decode cX10_arm 0 = .ok (.aload_n 0, 1) := by decide +kernel
theorem dX10_arm_1 : decode cX10_arm 1 = .ok (.getfield 28, 3) := by decide +kernel
theorem dX10_arm_4 : decode cX10_arm 4 = .ok (.iload_n 1, 1) := by decide +kernel
theorem dX10_arm_5 : decode cX10_arm 5 = .ok (.iload_n 2, 1) := by decide +kernel
theorem dX10_arm_6 : decode cX10_arm 6 = .ok (.invokevirtual 203, 3) := by decide +kernel
theorem dX10_arm_9 : decode cX10_arm 9 = .ok (.ireturn, 1) := by decide +kernel
theorem dX10_sail_0 : decode cX10_sail 0 = .ok (.aload_n 0, 1) := by decide +kernel
theorem dX10_sail_1 : decode cX10_sail 1 = .ok (.getfield 28, 3) := by decide +kernel
theorem dX10_sail_4 : decode cX10_sail 4 = .ok (.getfield 193, 3) := by decide +kernel
theorem dX10_sail_7 : decode cX10_sail 7 = .ok (.ifCond .eq 5, 3) := by decide +kernel
theorem dX10_sail_10 : decode cX10_sail 10 = .ok (.iconst 0, 1) := by decide +kernel
theorem dX10_sail_11 : decode cX10_sail 11 = .ok (.ireturn, 1) := by decide +kernel
theorem dX10_sail_12 : decode cX10_sail 12 = .ok (.aload_n 0, 1) := by decide +kernel
theorem dX10_sail_13 : decode cX10_sail 13 = .ok (.getfield 28, 3) := by decide +kernel
theorem dX10_sail_16 : decode cX10_sail 16 = .ok (.iconst 1, 1) := by decide +kernel
theorem dX10_sail_17 : decode cX10_sail 17 = .ok (.putfield 193, 3) := by decide +kernel
theorem dX10_sail_20 : decode cX10_sail 20 = .ok (.aload_n 0, 1) := by decide +kernel
theorem dX10_sail_21 : decode cX10_sail 21 = .ok (.getfield 28, 3) := by decide +kernel
theorem dX10_sail_24 : decode cX10_sail 24 = .ok (.iload_n 1, 1) := by decide +kernel
theorem dX10_sail_25 : decode cX10_sail 25 = .ok (.putfield 206, 3) := by decide +kernel
theorem dX10_sail_28 : decode cX10_sail 28 = .ok (.iconst 1, 1) := by decide +kernel
theorem dX10_sail_29 : decode cX10_sail 29 = .ok (.ireturn, 1) := by decide +kernel
theorem dX10_ship_0 : decode cX10_ship 0 = .ok (.iload_n 1, 1) := by decide +kernel
theorem dX10_ship_1 : decode cX10_ship 1 = .ok (.tableswitch 161 0 10 #[59, 64, 80, 88, 96, 104, 112, 123, 131, 142, 153], 59) := by decide +kernel
theorem dX10_ship_60 : decode cX10_ship 60 = .ok (.aload_n 0, 1) := by decide +kernel
theorem dX10_ship_61 : decode cX10_ship 61 = .ok (.getfield 165, 3) := by decide +kernel
theorem dX10_ship_64 : decode cX10_ship 64 = .ok (.ireturn, 1) := by decide +kernel
theorem dX10_ship_65 : decode cX10_ship 65 = .ok (.aload_n 0, 1) := by decide +kernel
theorem dX10_ship_66 : decode cX10_ship 66 = .ok (.getfield 28, 3) := by decide +kernel
theorem dX10_ship_69 : decode cX10_ship 69 = .ok (.getfield 193, 3) := by decide +kernel
theorem dX10_ship_72 : decode cX10_ship 72 = .ok (.ifCond .eq 7, 3) := by decide +kernel
theorem dX10_ship_75 : decode cX10_ship 75 = .ok (.iconst 1, 1) := by decide +kernel
theorem dX10_ship_76 : decode cX10_ship 76 = .ok (.goto 4, 3) := by decide +kernel
theorem dX10_ship_79 : decode cX10_ship 79 = .ok (.iconst 0, 1) := by decide +kernel
theorem dX10_ship_80 : decode cX10_ship 80 = .ok (.ireturn, 1) := by decide +kernel
theorem dX10_ship_81 : decode cX10_ship 81 = .ok (.aload_n 0, 1) := by decide +kernel
theorem dX10_ship_82 : decode cX10_ship 82 = .ok (.getfield 28, 3) := by decide +kernel
theorem dX10_ship_85 : decode cX10_ship 85 = .ok (.invokevirtual 209, 3) := by decide +kernel
theorem dX10_ship_88 : decode cX10_ship 88 = .ok (.ireturn, 1) := by decide +kernel
theorem dX10_ship_89 : decode cX10_ship 89 = .ok (.aload_n 0, 1) := by decide +kernel
theorem dX10_ship_90 : decode cX10_ship 90 = .ok (.getfield 28, 3) := by decide +kernel
theorem dX10_ship_93 : decode cX10_ship 93 = .ok (.invokevirtual 213, 3) := by decide +kernel
theorem dX10_ship_96 : decode cX10_ship 96 = .ok (.ireturn, 1) := by decide +kernel
theorem dX10_ship_97 : decode cX10_ship 97 = .ok (.aload_n 0, 1) := by decide +kernel
theorem dX10_ship_98 : decode cX10_ship 98 = .ok (.getfield 28, 3) := by decide +kernel
theorem dX10_ship_101 : decode cX10_ship 101 = .ok (.getfield 216, 3) := by decide +kernel
theorem dX10_ship_104 : decode cX10_ship 104 = .ok (.ireturn, 1) := by decide +kernel
theorem dX10_ship_105 : decode cX10_ship 105 = .ok (.aload_n 0, 1) := by decide +kernel
theorem dX10_ship_106 : decode cX10_ship 106 = .ok (.getfield 28, 3) := by decide +kernel
theorem dX10_ship_109 : decode cX10_ship 109 = .ok (.getfield 219, 3) := by decide +kernel
theorem dX10_ship_112 : decode cX10_ship 112 = .ok (.ireturn, 1) := by decide +kernel
theorem dX10_ship_113 : decode cX10_ship 113 = .ok (.aload_n 0, 1) := by decide +kernel
theorem dX10_ship_114 : decode cX10_ship 114 = .ok (.getfield 28, 3) := by decide +kernel
theorem dX10_ship_117 : decode cX10_ship 117 = .ok (.getfield 196, 3) := by decide +kernel
theorem dX10_ship_120 : decode cX10_ship 120 = .ok (.getfield 222, 3) := by decide +kernel
theorem dX10_ship_123 : decode cX10_ship 123 = .ok (.ireturn, 1) := by decide +kernel
theorem dX10_ship_124 : decode cX10_ship 124 = .ok (.aload_n 0, 1) := by decide +kernel
theorem dX10_ship_125 : decode cX10_ship 125 = .ok (.getfield 21, 3) := by decide +kernel
theorem dX10_ship_128 : decode cX10_ship 128 = .ok (.getfield 222, 3) := by decide +kernel
theorem dX10_ship_131 : decode cX10_ship 131 = .ok (.ireturn, 1) := by decide +kernel
theorem dX10_ship_132 : decode cX10_ship 132 = .ok (.aload_n 0, 1) := by decide +kernel
theorem dX10_ship_133 : decode cX10_ship 133 = .ok (.getfield 28, 3) := by decide +kernel
theorem dX10_ship_136 : decode cX10_ship 136 = .ok (.getfield 196, 3) := by decide +kernel
theorem dX10_ship_139 : decode cX10_ship 139 = .ok (.invokevirtual 225, 3) := by decide +kernel
theorem dX10_ship_142 : decode cX10_ship 142 = .ok (.ireturn, 1) := by decide +kernel
theorem dX10_ship_143 : decode cX10_ship 143 = .ok (.aload_n 0, 1) := by decide +kernel
theorem dX10_ship_144 : decode cX10_ship 144 = .ok (.getfield 28, 3) := by decide +kernel
theorem dX10_ship_147 : decode cX10_ship 147 = .ok (.getfield 196, 3) := by decide +kernel
theorem dX10_ship_150 : decode cX10_ship 150 = .ok (.invokevirtual 228, 3) := by decide +kernel
theorem dX10_ship_153 : decode cX10_ship 153 = .ok (.ireturn, 1) := by decide +kernel
theorem dX10_ship_154 : decode cX10_ship 154 = .ok (.aload_n 0, 1) := by decide +kernel
theorem dX10_ship_155 : decode cX10_ship 155 = .ok (.getfield 45, 3) := by decide +kernel
theorem dX10_ship_158 : decode cX10_ship 158 = .ok (.getfield 89, 3) := by decide +kernel
theorem dX10_ship_161 : decode cX10_ship 161 = .ok (.ireturn, 1) := by decide +kernel
theorem dX10_ship_162 : decode cX10_ship 162 = .ok (.ldc 231, 2) := by decide +kernel
theorem dX10_ship_164 : decode cX10_ship 164 = .ok (.ireturn, 1) := by decide +kernel
theorem dX10_arms_0 : decode cX10_arms 0 = .ok (.iload_n 1, 1) := by decide +kernel
theorem dX10_arms_1 : decode cX10_arms 1 = .ok (.bipush 61, 2) := by decide +kernel
theorem dX10_arms_3 : decode cX10_arms 3 = .ok (.invokestatic 85, 3) := by decide +kernel
theorem dX10_arms_6 : decode cX10_arms 6 = .ok (.ifCond .eq 14, 3) := by decide +kernel
theorem dX10_arms_9 : decode cX10_arms 9 = .ok (.aload_n 0, 1) := by decide +kernel
theorem dX10_arms_10 : decode cX10_arms 10 = .ok (.getfield 28, 3) := by decide +kernel
theorem dX10_arms_13 : decode cX10_arms 13 = .ok (.iload_n 1, 1) := by decide +kernel
theorem dX10_arms_14 : decode cX10_arms 14 = .ok (.invokevirtual 232, 3) := by decide +kernel
theorem dX10_arms_17 : decode cX10_arms 17 = .ok (.goto 4, 3) := by decide +kernel
theorem dX10_arms_20 : decode cX10_arms 20 = .ok (.iconst (-1), 1) := by decide +kernel
theorem dX10_arms_21 : decode cX10_arms 21 = .ok (.ireturn, 1) := by decide +kernel
theorem dX10_told_0 : decode cX10_told 0 = .ok (.aload_n 0, 1) := by decide +kernel
theorem dX10_told_1 : decode cX10_told 1 = .ok (.iload_n 2, 1) := by decide +kernel
theorem dX10_told_2 : decode cX10_told 2 = .ok (.invokevirtual 110, 3) := by decide +kernel
theorem dX10_told_5 : decode cX10_told 5 = .ok (.astore 6, 2) := by decide +kernel
theorem dX10_told_7 : decode cX10_told 7 = .ok (.iload_n 2, 1) := by decide +kernel
theorem dX10_told_8 : decode cX10_told 8 = .ok (.iload_n 3, 1) := by decide +kernel
theorem dX10_told_9 : decode cX10_told 9 = .ok (.iload 4, 2) := by decide +kernel
theorem dX10_told_11 : decode cX10_told 11 = .ok (.iload 5, 2) := by decide +kernel
theorem dX10_told_13 : decode cX10_told 13 = .ok (.invokestatic 114, 3) := by decide +kernel
theorem dX10_told_16 : decode cX10_told 16 = .ok (.istore 7, 2) := by decide +kernel
theorem dX10_told_18 : decode cX10_told 18 = .ok (.iload 7, 2) := by decide +kernel
theorem dX10_told_20 : decode cX10_told 20 = .ok (.iconst (-1), 1) := by decide +kernel
theorem dX10_told_21 : decode cX10_told 21 = .ok (.if_icmp .eq 11, 3) := by decide +kernel
theorem dX10_told_24 : decode cX10_told 24 = .ok (.iload_n 1, 1) := by decide +kernel
theorem dX10_told_25 : decode cX10_told 25 = .ok (.iconst 4, 1) := by decide +kernel
theorem dX10_told_26 : decode cX10_told 26 = .ok (.invokestatic 85, 3) := by decide +kernel
theorem dX10_told_29 : decode cX10_told 29 = .ok (.ifCond .ne 6, 3) := by decide +kernel
theorem dX10_told_32 : decode cX10_told 32 = .ok (.ldc 231, 2) := by decide +kernel
theorem dX10_told_34 : decode cX10_told 34 = .ok (.ireturn, 1) := by decide +kernel
theorem dX10_told_35 : decode cX10_told 35 = .ok (.aload_n 0, 1) := by decide +kernel
theorem dX10_told_36 : decode cX10_told 36 = .ok (.getfield 45, 3) := by decide +kernel
theorem dX10_told_39 : decode cX10_told 39 = .ok (.aload_n 0, 1) := by decide +kernel
theorem dX10_told_40 : decode cX10_told 40 = .ok (.getfield 12, 3) := by decide +kernel
theorem dX10_told_43 : decode cX10_told 43 = .ok (.aload_n 0, 1) := by decide +kernel
theorem dX10_told_44 : decode cX10_told 44 = .ok (.getfield 165, 3) := by decide +kernel
theorem dX10_told_47 : decode cX10_told 47 = .ok (.invokevirtual 168, 3) := by decide +kernel
theorem dX10_told_50 : decode cX10_told 50 = .ok (.aload_n 0, 1) := by decide +kernel
theorem dX10_told_51 : decode cX10_told 51 = .ok (.getfield 165, 3) := by decide +kernel
theorem dX10_told_54 : decode cX10_told 54 = .ok (.bipush 24, 2) := by decide +kernel
theorem dX10_told_56 : decode cX10_told 56 = .ok (.irem, 1) := by decide +kernel
theorem dX10_told_57 : decode cX10_told 57 = .ok (.invokevirtual 171, 3) := by decide +kernel
theorem dX10_told_60 : decode cX10_told 60 = .ok (.aload 6, 2) := by decide +kernel
theorem dX10_told_62 : decode cX10_told 62 = .ok (.aload_n 0, 1) := by decide +kernel
theorem dX10_told_63 : decode cX10_told 63 = .ok (.getfield 45, 3) := by decide +kernel
theorem dX10_told_66 : decode cX10_told 66 = .ok (.iload_n 1, 1) := by decide +kernel
theorem dX10_told_67 : decode cX10_told 67 = .ok (.iload 7, 2) := by decide +kernel
theorem dX10_told_69 : decode cX10_told 69 = .ok (.invokevirtual 235, 3) := by decide +kernel
theorem dX10_told_72 : decode cX10_told 72 = .ok (.ireturn, 1) := by decide +kernel
theorem dX10_split_0 : decode cX10_split 0 = .ok (.iload_n 1, 1) := by decide +kernel
theorem dX10_split_1 : decode cX10_split 1 = .ok (.sipush 145, 3) := by decide +kernel
theorem dX10_split_4 : decode cX10_split 4 = .ok (.invokestatic 85, 3) := by decide +kernel
theorem dX10_split_7 : decode cX10_split 7 = .ok (.ifCond .eq 11, 3) := by decide +kernel
theorem dX10_split_10 : decode cX10_split 10 = .ok (.iload_n 2, 1) := by decide +kernel
theorem dX10_split_11 : decode cX10_split 11 = .ok (.iconst 5, 1) := by decide +kernel
theorem dX10_split_12 : decode cX10_split 12 = .ok (.invokestatic 85, 3) := by decide +kernel
theorem dX10_split_15 : decode cX10_split 15 = .ok (.ifCond .ne 5, 3) := by decide +kernel
theorem dX10_split_18 : decode cX10_split 18 = .ok (.iconst (-1), 1) := by decide +kernel
theorem dX10_split_19 : decode cX10_split 19 = .ok (.ireturn, 1) := by decide +kernel
theorem dX10_split_20 : decode cX10_split 20 = .ok (.iconst 5, 1) := by decide +kernel
theorem dX10_split_21 : decode cX10_split 21 = .ok (.iload_n 1, 1) := by decide +kernel
theorem dX10_split_22 : decode cX10_split 22 = .ok (.imul, 1) := by decide +kernel
theorem dX10_split_23 : decode cX10_split 23 = .ok (.iconst 1, 1) := by decide +kernel
theorem dX10_split_24 : decode cX10_split 24 = .ok (.iadd, 1) := by decide +kernel
theorem dX10_split_25 : decode cX10_split 25 = .ok (.istore_n 3, 1) := by decide +kernel
theorem dX10_split_26 : decode cX10_split 26 = .ok (.iconst 0, 1) := by decide +kernel
theorem dX10_split_27 : decode cX10_split 27 = .ok (.istore 4, 2) := by decide +kernel
theorem dX10_split_29 : decode cX10_split 29 = .ok (.iconst 0, 1) := by decide +kernel
theorem dX10_split_30 : decode cX10_split 30 = .ok (.istore 5, 2) := by decide +kernel
theorem dX10_split_32 : decode cX10_split 32 = .ok (.iload 5, 2) := by decide +kernel
theorem dX10_split_34 : decode cX10_split 34 = .ok (.bipush 36, 2) := by decide +kernel
theorem dX10_split_36 : decode cX10_split 36 = .ok (.if_icmp .gt 137, 3) := by decide +kernel
theorem dX10_split_39 : decode cX10_split 39 = .ok (.iconst 0, 1) := by decide +kernel
theorem dX10_split_40 : decode cX10_split 40 = .ok (.istore 6, 2) := by decide +kernel
theorem dX10_split_42 : decode cX10_split 42 = .ok (.iload 6, 2) := by decide +kernel
theorem dX10_split_44 : decode cX10_split 44 = .ok (.bipush 36, 2) := by decide +kernel
theorem dX10_split_46 : decode cX10_split 46 = .ok (.if_icmp .gt 121, 3) := by decide +kernel
theorem dX10_split_49 : decode cX10_split 49 = .ok (.iload 5, 2) := by decide +kernel
theorem dX10_split_51 : decode cX10_split 51 = .ok (.invokestatic 239, 3) := by decide +kernel
theorem dX10_split_54 : decode cX10_split 54 = .ok (.iload 6, 2) := by decide +kernel
theorem dX10_split_56 : decode cX10_split 56 = .ok (.invokestatic 239, 3) := by decide +kernel
theorem dX10_split_59 : decode cX10_split 59 = .ok (.iadd, 1) := by decide +kernel
theorem dX10_split_60 : decode cX10_split 60 = .ok (.istore 7, 2) := by decide +kernel
theorem dX10_split_62 : decode cX10_split 62 = .ok (.iload_n 1, 1) := by decide +kernel
theorem dX10_split_63 : decode cX10_split 63 = .ok (.iload 5, 2) := by decide +kernel
theorem dX10_split_65 : decode cX10_split 65 = .ok (.isub, 1) := by decide +kernel
theorem dX10_split_66 : decode cX10_split 66 = .ok (.iload 6, 2) := by decide +kernel
theorem dX10_split_68 : decode cX10_split 68 = .ok (.isub, 1) := by decide +kernel
theorem dX10_split_69 : decode cX10_split 69 = .ok (.istore 8, 2) := by decide +kernel
theorem dX10_split_71 : decode cX10_split 71 = .ok (.iconst 0, 1) := by decide +kernel
theorem dX10_split_72 : decode cX10_split 72 = .ok (.iload 8, 2) := by decide +kernel
theorem dX10_split_74 : decode cX10_split 74 = .ok (.bipush 36, 2) := by decide +kernel
theorem dX10_split_76 : decode cX10_split 76 = .ok (.isub, 1) := by decide +kernel
theorem dX10_split_77 : decode cX10_split 77 = .ok (.invokestatic 242, 3) := by decide +kernel
theorem dX10_split_80 : decode cX10_split 80 = .ok (.istore 9, 2) := by decide +kernel
theorem dX10_split_82 : decode cX10_split 82 = .ok (.iload 9, 2) := by decide +kernel
theorem dX10_split_84 : decode cX10_split 84 = .ok (.iload 8, 2) := by decide +kernel
theorem dX10_split_86 : decode cX10_split 86 = .ok (.if_icmp .gt 75, 3) := by decide +kernel
theorem dX10_split_89 : decode cX10_split 89 = .ok (.iload 9, 2) := by decide +kernel
theorem dX10_split_91 : decode cX10_split 91 = .ok (.bipush 36, 2) := by decide +kernel
theorem dX10_split_93 : decode cX10_split 93 = .ok (.if_icmp .gt 68, 3) := by decide +kernel
theorem dX10_split_96 : decode cX10_split 96 = .ok (.iload 7, 2) := by decide +kernel
theorem dX10_split_98 : decode cX10_split 98 = .ok (.iload_n 3, 1) := by decide +kernel
theorem dX10_split_99 : decode cX10_split 99 = .ok (.if_icmp .ge 62, 3) := by decide +kernel
theorem dX10_split_102 : decode cX10_split 102 = .ok (.iload 7, 2) := by decide +kernel
theorem dX10_split_104 : decode cX10_split 104 = .ok (.iload 9, 2) := by decide +kernel
theorem dX10_split_106 : decode cX10_split 106 = .ok (.invokestatic 239, 3) := by decide +kernel
theorem dX10_split_109 : decode cX10_split 109 = .ok (.iadd, 1) := by decide +kernel
theorem dX10_split_110 : decode cX10_split 110 = .ok (.iload 8, 2) := by decide +kernel
theorem dX10_split_112 : decode cX10_split 112 = .ok (.iload 9, 2) := by decide +kernel
theorem dX10_split_114 : decode cX10_split 114 = .ok (.isub, 1) := by decide +kernel
theorem dX10_split_115 : decode cX10_split 115 = .ok (.invokestatic 239, 3) := by decide +kernel
theorem dX10_split_118 : decode cX10_split 118 = .ok (.iadd, 1) := by decide +kernel
theorem dX10_split_119 : decode cX10_split 119 = .ok (.istore 10, 2) := by decide +kernel
theorem dX10_split_121 : decode cX10_split 121 = .ok (.iload 10, 2) := by decide +kernel
theorem dX10_split_123 : decode cX10_split 123 = .ok (.iload_n 3, 1) := by decide +kernel
theorem dX10_split_124 : decode cX10_split 124 = .ok (.if_icmp .ge 31, 3) := by decide +kernel
theorem dX10_split_127 : decode cX10_split 127 = .ok (.iload 10, 2) := by decide +kernel
theorem dX10_split_129 : decode cX10_split 129 = .ok (.istore_n 3, 1) := by decide +kernel
theorem dX10_split_130 : decode cX10_split 130 = .ok (.iload 5, 2) := by decide +kernel
theorem dX10_split_132 : decode cX10_split 132 = .ok (.bipush 64, 2) := by decide +kernel
theorem dX10_split_134 : decode cX10_split 134 = .ok (.imul, 1) := by decide +kernel
theorem dX10_split_135 : decode cX10_split 135 = .ok (.iload 6, 2) := by decide +kernel
theorem dX10_split_137 : decode cX10_split 137 = .ok (.iadd, 1) := by decide +kernel
theorem dX10_split_138 : decode cX10_split 138 = .ok (.bipush 64, 2) := by decide +kernel
theorem dX10_split_140 : decode cX10_split 140 = .ok (.imul, 1) := by decide +kernel
theorem dX10_split_141 : decode cX10_split 141 = .ok (.iload 9, 2) := by decide +kernel
theorem dX10_split_143 : decode cX10_split 143 = .ok (.iadd, 1) := by decide +kernel
theorem dX10_split_144 : decode cX10_split 144 = .ok (.bipush 64, 2) := by decide +kernel
theorem dX10_split_146 : decode cX10_split 146 = .ok (.imul, 1) := by decide +kernel
theorem dX10_split_147 : decode cX10_split 147 = .ok (.iload 8, 2) := by decide +kernel
theorem dX10_split_149 : decode cX10_split 149 = .ok (.iadd, 1) := by decide +kernel
theorem dX10_split_150 : decode cX10_split 150 = .ok (.iload 9, 2) := by decide +kernel
theorem dX10_split_152 : decode cX10_split 152 = .ok (.isub, 1) := by decide +kernel
theorem dX10_split_153 : decode cX10_split 153 = .ok (.istore 4, 2) := by decide +kernel
theorem dX10_split_155 : decode cX10_split 155 = .ok (.iinc 9 1, 3) := by decide +kernel
theorem dX10_split_158 : decode cX10_split 158 = .ok (.goto (-76), 3) := by decide +kernel
theorem dX10_split_161 : decode cX10_split 161 = .ok (.iinc 6 1, 3) := by decide +kernel
theorem dX10_split_164 : decode cX10_split 164 = .ok (.goto (-122), 3) := by decide +kernel
theorem dX10_split_167 : decode cX10_split 167 = .ok (.iinc 5 1, 3) := by decide +kernel
theorem dX10_split_170 : decode cX10_split 170 = .ok (.goto (-138), 3) := by decide +kernel
theorem dX10_split_173 : decode cX10_split 173 = .ok (.iload_n 2, 1) := by decide +kernel
theorem dX10_split_174 : decode cX10_split 174 = .ok (.ifCond .ne 7, 3) := by decide +kernel
theorem dX10_split_177 : decode cX10_split 177 = .ok (.iload_n 3, 1) := by decide +kernel
theorem dX10_split_178 : decode cX10_split 178 = .ok (.goto 15, 3) := by decide +kernel
theorem dX10_split_181 : decode cX10_split 181 = .ok (.iload 4, 2) := by decide +kernel
theorem dX10_split_183 : decode cX10_split 183 = .ok (.bipush 6, 2) := by decide +kernel
theorem dX10_split_185 : decode cX10_split 185 = .ok (.iconst 4, 1) := by decide +kernel
theorem dX10_split_186 : decode cX10_split 186 = .ok (.iload_n 2, 1) := by decide +kernel
theorem dX10_split_187 : decode cX10_split 187 = .ok (.isub, 1) := by decide +kernel
theorem dX10_split_188 : decode cX10_split 188 = .ok (.imul, 1) := by decide +kernel
theorem dX10_split_189 : decode cX10_split 189 = .ok (.ishr, 1) := by decide +kernel
theorem dX10_split_190 : decode cX10_split 190 = .ok (.bipush 63, 2) := by decide +kernel
theorem dX10_split_192 : decode cX10_split 192 = .ok (.iand, 1) := by decide +kernel
theorem dX10_split_193 : decode cX10_split 193 = .ok (.ireturn, 1) := by decide +kernel
theorem dX10_can_0 : decode cX10_can 0 = .ok (.iload_n 1, 1) := by decide +kernel
theorem dX10_can_1 : decode cX10_can 1 = .ok (.iload_n 2, 1) := by decide +kernel
theorem dX10_can_2 : decode cX10_can 2 = .ok (.iload_n 3, 1) := by decide +kernel
theorem dX10_can_3 : decode cX10_can 3 = .ok (.invokestatic 96, 3) := by decide +kernel
theorem dX10_can_6 : decode cX10_can 6 = .ok (.istore 4, 2) := by decide +kernel
theorem dX10_can_8 : decode cX10_can 8 = .ok (.iload 4, 2) := by decide +kernel
theorem dX10_can_10 : decode cX10_can 10 = .ok (.iconst (-1), 1) := by decide +kernel
theorem dX10_can_11 : decode cX10_can 11 = .ok (.if_icmp .eq 16, 3) := by decide +kernel
theorem dX10_can_14 : decode cX10_can 14 = .ok (.aload_n 0, 1) := by decide +kernel
theorem dX10_can_15 : decode cX10_can 15 = .ok (.getfield 21, 3) := by decide +kernel
theorem dX10_can_18 : decode cX10_can 18 = .ok (.getfield 104, 3) := by decide +kernel
theorem dX10_can_21 : decode cX10_can 21 = .ok (.iload 4, 2) := by decide +kernel
theorem dX10_can_23 : decode cX10_can 23 = .ok (.iaload, 1) := by decide +kernel
theorem dX10_can_24 : decode cX10_can 24 = .ok (.ifCond .ne 5, 3) := by decide +kernel
theorem dX10_can_27 : decode cX10_can 27 = .ok (.iconst (-1), 1) := by decide +kernel
theorem dX10_can_28 : decode cX10_can 28 = .ok (.ireturn, 1) := by decide +kernel
theorem dX10_can_29 : decode cX10_can 29 = .ok (.aload_n 0, 1) := by decide +kernel
theorem dX10_can_30 : decode cX10_can 30 = .ok (.getfield 59, 3) := by decide +kernel
theorem dX10_can_33 : decode cX10_can 33 = .ok (.iload 4, 2) := by decide +kernel
theorem dX10_can_35 : decode cX10_can 35 = .ok (.aload_n 0, 1) := by decide +kernel
theorem dX10_can_36 : decode cX10_can 36 = .ok (.getfield 21, 3) := by decide +kernel
theorem dX10_can_39 : decode cX10_can 39 = .ok (.iload 4, 2) := by decide +kernel
theorem dX10_can_41 : decode cX10_can 41 = .ok (.invokevirtual 118, 3) := by decide +kernel
theorem dX10_can_44 : decode cX10_can 44 = .ok (.aload_n 0, 1) := by decide +kernel
theorem dX10_can_45 : decode cX10_can 45 = .ok (.getfield 165, 3) := by decide +kernel
theorem dX10_can_48 : decode cX10_can 48 = .ok (.invokevirtual 248, 3) := by decide +kernel
theorem dX10_can_51 : decode cX10_can 51 = .ok (.ireturn, 1) := by decide +kernel
theorem dX10_step_0 : decode cX10_step 0 = .ok (.iload_n 1, 1) := by decide +kernel
theorem dX10_step_1 : decode cX10_step 1 = .ok (.bipush 21, 2) := by decide +kernel
theorem dX10_step_3 : decode cX10_step 3 = .ok (.invokestatic 85, 3) := by decide +kernel
theorem dX10_step_6 : decode cX10_step 6 = .ok (.ifCond .ne 5, 3) := by decide +kernel
theorem dX10_step_9 : decode cX10_step 9 = .ok (.iconst 0, 1) := by decide +kernel
theorem dX10_step_10 : decode cX10_step 10 = .ok (.ireturn, 1) := by decide +kernel
theorem dX10_step_11 : decode cX10_step 11 = .ok (.aload_n 0, 1) := by decide +kernel
theorem dX10_step_12 : decode cX10_step 12 = .ok (.getfield 59, 3) := by decide +kernel
theorem dX10_step_15 : decode cX10_step 15 = .ok (.iload_n 1, 1) := by decide +kernel
theorem dX10_step_16 : decode cX10_step 16 = .ok (.putfield 251, 3) := by decide +kernel
theorem dX10_step_19 : decode cX10_step 19 = .ok (.iconst 1, 1) := by decide +kernel
theorem dX10_step_20 : decode cX10_step 20 = .ok (.ireturn, 1) := by decide +kernel
theorem dX10_span_0 : decode cX10_span 0 = .ok (.iload_n 1, 1) := by decide +kernel
theorem dX10_span_1 : decode cX10_span 1 = .ok (.iload_n 2, 1) := by decide +kernel
theorem dX10_span_2 : decode cX10_span 2 = .ok (.iload_n 3, 1) := by decide +kernel
theorem dX10_span_3 : decode cX10_span 3 = .ok (.invokestatic 96, 3) := by decide +kernel
theorem dX10_span_6 : decode cX10_span 6 = .ok (.istore 6, 2) := by decide +kernel
theorem dX10_span_8 : decode cX10_span 8 = .ok (.iload 6, 2) := by decide +kernel
theorem dX10_span_10 : decode cX10_span 10 = .ok (.iconst (-1), 1) := by decide +kernel
theorem dX10_span_11 : decode cX10_span 11 = .ok (.if_icmp .eq 23, 3) := by decide +kernel
theorem dX10_span_14 : decode cX10_span 14 = .ok (.iload 4, 2) := by decide +kernel
theorem dX10_span_16 : decode cX10_span 16 = .ok (.sipush 720, 3) := by decide +kernel
theorem dX10_span_19 : decode cX10_span 19 = .ok (.invokestatic 85, 3) := by decide +kernel
theorem dX10_span_22 : decode cX10_span 22 = .ok (.ifCond .eq 12, 3) := by decide +kernel
theorem dX10_span_25 : decode cX10_span 25 = .ok (.iload 5, 2) := by decide +kernel
theorem dX10_span_27 : decode cX10_span 27 = .ok (.iconst 2, 1) := by decide +kernel
theorem dX10_span_28 : decode cX10_span 28 = .ok (.invokestatic 85, 3) := by decide +kernel
theorem dX10_span_31 : decode cX10_span 31 = .ok (.ifCond .ne 5, 3) := by decide +kernel
theorem dX10_span_34 : decode cX10_span 34 = .ok (.iconst (-1), 1) := by decide +kernel
theorem dX10_span_35 : decode cX10_span 35 = .ok (.ireturn, 1) := by decide +kernel
theorem dX10_span_36 : decode cX10_span 36 = .ok (.iload 5, 2) := by decide +kernel
theorem dX10_span_38 : decode cX10_span 38 = .ok (.ifCond .ne 17, 3) := by decide +kernel
theorem dX10_span_41 : decode cX10_span 41 = .ok (.aload_n 0, 1) := by decide +kernel
theorem dX10_span_42 : decode cX10_span 42 = .ok (.getfield 59, 3) := by decide +kernel
theorem dX10_span_45 : decode cX10_span 45 = .ok (.iload 6, 2) := by decide +kernel
theorem dX10_span_47 : decode cX10_span 47 = .ok (.iload 4, 2) := by decide +kernel
theorem dX10_span_49 : decode cX10_span 49 = .ok (.invokevirtual 254, 3) := by decide +kernel
theorem dX10_span_52 : decode cX10_span 52 = .ok (.goto 14, 3) := by decide +kernel
theorem dX10_span_55 : decode cX10_span 55 = .ok (.aload_n 0, 1) := by decide +kernel
theorem dX10_span_56 : decode cX10_span 56 = .ok (.getfield 59, 3) := by decide +kernel
theorem dX10_span_59 : decode cX10_span 59 = .ok (.iload 6, 2) := by decide +kernel
theorem dX10_span_61 : decode cX10_span 61 = .ok (.iload 4, 2) := by decide +kernel
theorem dX10_span_63 : decode cX10_span 63 = .ok (.invokevirtual 257, 3) := by decide +kernel
theorem dX10_span_66 : decode cX10_span 66 = .ok (.ireturn, 1) := by decide +kernel
theorem dX10_mean_0 : decode cX10_mean 0 = .ok (.iload_n 1, 1) := by decide +kernel
theorem dX10_mean_1 : decode cX10_mean 1 = .ok (.sipush 720, 3) := by decide +kernel
theorem dX10_mean_4 : decode cX10_mean 4 = .ok (.invokestatic 85, 3) := by decide +kernel
theorem dX10_mean_7 : decode cX10_mean 7 = .ok (.ifCond .eq 11, 3) := by decide +kernel
theorem dX10_mean_10 : decode cX10_mean 10 = .ok (.iload_n 2, 1) := by decide +kernel
theorem dX10_mean_11 : decode cX10_mean 11 = .ok (.iconst 3, 1) := by decide +kernel
theorem dX10_mean_12 : decode cX10_mean 12 = .ok (.invokestatic 85, 3) := by decide +kernel
theorem dX10_mean_15 : decode cX10_mean 15 = .ok (.ifCond .ne 5, 3) := by decide +kernel
theorem dX10_mean_18 : decode cX10_mean 18 = .ok (.iconst (-1), 1) := by decide +kernel
theorem dX10_mean_19 : decode cX10_mean 19 = .ok (.ireturn, 1) := by decide +kernel
theorem dX10_mean_20 : decode cX10_mean 20 = .ok (.iload_n 2, 1) := by decide +kernel
theorem dX10_mean_21 : decode cX10_mean 21 = .ok (.iconst 2, 1) := by decide +kernel
theorem dX10_mean_22 : decode cX10_mean 22 = .ok (.if_icmp .ge 26, 3) := by decide +kernel
theorem dX10_mean_25 : decode cX10_mean 25 = .ok (.aload_n 0, 1) := by decide +kernel
theorem dX10_mean_26 : decode cX10_mean 26 = .ok (.getfield 59, 3) := by decide +kernel
theorem dX10_mean_29 : decode cX10_mean 29 = .ok (.aload_n 0, 1) := by decide +kernel
theorem dX10_mean_30 : decode cX10_mean 30 = .ok (.getfield 21, 3) := by decide +kernel
theorem dX10_mean_33 : decode cX10_mean 33 = .ok (.iload_n 1, 1) := by decide +kernel
theorem dX10_mean_34 : decode cX10_mean 34 = .ok (.iload_n 2, 1) := by decide +kernel
theorem dX10_mean_35 : decode cX10_mean 35 = .ok (.iconst 1, 1) := by decide +kernel
theorem dX10_mean_36 : decode cX10_mean 36 = .ok (.if_icmp .ne 7, 3) := by decide +kernel
theorem dX10_mean_39 : decode cX10_mean 39 = .ok (.iconst 1, 1) := by decide +kernel
theorem dX10_mean_40 : decode cX10_mean 40 = .ok (.goto 4, 3) := by decide +kernel
theorem dX10_mean_43 : decode cX10_mean 43 = .ok (.iconst 0, 1) := by decide +kernel
theorem dX10_mean_44 : decode cX10_mean 44 = .ok (.invokevirtual 260, 3) := by decide +kernel
theorem dX10_mean_47 : decode cX10_mean 47 = .ok (.ireturn, 1) := by decide +kernel
theorem dX10_mean_48 : decode cX10_mean 48 = .ok (.aload_n 0, 1) := by decide +kernel
theorem dX10_mean_49 : decode cX10_mean 49 = .ok (.getfield 59, 3) := by decide +kernel
theorem dX10_mean_52 : decode cX10_mean 52 = .ok (.aload_n 0, 1) := by decide +kernel
theorem dX10_mean_53 : decode cX10_mean 53 = .ok (.getfield 21, 3) := by decide +kernel
theorem dX10_mean_56 : decode cX10_mean 56 = .ok (.iload_n 1, 1) := by decide +kernel
theorem dX10_mean_57 : decode cX10_mean 57 = .ok (.iconst 0, 1) := by decide +kernel
theorem dX10_mean_58 : decode cX10_mean 58 = .ok (.invokevirtual 260, 3) := by decide +kernel
theorem dX10_mean_61 : decode cX10_mean 61 = .ok (.istore_n 3, 1) := by decide +kernel
theorem dX10_mean_62 : decode cX10_mean 62 = .ok (.aload_n 0, 1) := by decide +kernel
theorem dX10_mean_63 : decode cX10_mean 63 = .ok (.getfield 81, 3) := by decide +kernel
theorem dX10_mean_66 : decode cX10_mean 66 = .ok (.iconst (-1), 1) := by decide +kernel
theorem dX10_mean_67 : decode cX10_mean 67 = .ok (.if_icmp .eq 8, 3) := by decide +kernel
theorem dX10_mean_70 : decode cX10_mean 70 = .ok (.iload_n 3, 1) := by decide +kernel
theorem dX10_mean_71 : decode cX10_mean 71 = .ok (.iconst (-1), 1) := by decide +kernel
theorem dX10_mean_72 : decode cX10_mean 72 = .ok (.if_icmp .ne 5, 3) := by decide +kernel
theorem dX10_mean_75 : decode cX10_mean 75 = .ok (.iconst (-1), 1) := by decide +kernel
theorem dX10_mean_76 : decode cX10_mean 76 = .ok (.ireturn, 1) := by decide +kernel
theorem dX10_mean_77 : decode cX10_mean 77 = .ok (.iload_n 3, 1) := by decide +kernel
theorem dX10_mean_78 : decode cX10_mean 78 = .ok (.aload_n 0, 1) := by decide +kernel
theorem dX10_mean_79 : decode cX10_mean 79 = .ok (.getfield 81, 3) := by decide +kernel
theorem dX10_mean_82 : decode cX10_mean 82 = .ok (.if_icmp .gt 27, 3) := by decide +kernel
theorem dX10_mean_85 : decode cX10_mean 85 = .ok (.aload_n 0, 1) := by decide +kernel
theorem dX10_mean_86 : decode cX10_mean 86 = .ok (.getfield 81, 3) := by decide +kernel
theorem dX10_mean_89 : decode cX10_mean 89 = .ok (.aload_n 0, 1) := by decide +kernel
theorem dX10_mean_90 : decode cX10_mean 90 = .ok (.getfield 59, 3) := by decide +kernel
theorem dX10_mean_93 : decode cX10_mean 93 = .ok (.aload_n 0, 1) := by decide +kernel
theorem dX10_mean_94 : decode cX10_mean 94 = .ok (.getfield 21, 3) := by decide +kernel
theorem dX10_mean_97 : decode cX10_mean 97 = .ok (.iload_n 1, 1) := by decide +kernel
theorem dX10_mean_98 : decode cX10_mean 98 = .ok (.iconst 1, 1) := by decide +kernel
theorem dX10_mean_99 : decode cX10_mean 99 = .ok (.invokevirtual 260, 3) := by decide +kernel
theorem dX10_mean_102 : decode cX10_mean 102 = .ok (.if_icmp .gt 7, 3) := by decide +kernel
theorem dX10_mean_105 : decode cX10_mean 105 = .ok (.iconst 1, 1) := by decide +kernel
theorem dX10_mean_106 : decode cX10_mean 106 = .ok (.goto 4, 3) := by decide +kernel
theorem dX10_mean_109 : decode cX10_mean 109 = .ok (.iconst 0, 1) := by decide +kernel
theorem dX10_mean_110 : decode cX10_mean 110 = .ok (.ireturn, 1) := by decide +kernel
theorem dX10_paper_0 : decode cX10_paper 0 = .ok (.iload_n 1, 1) := by decide +kernel
theorem dX10_paper_1 : decode cX10_paper 1 = .ok (.iconst (-1), 1) := by decide +kernel
theorem dX10_paper_2 : decode cX10_paper 2 = .ok (.if_icmp .eq 14, 3) := by decide +kernel
theorem dX10_paper_5 : decode cX10_paper 5 = .ok (.iload_n 1, 1) := by decide +kernel
theorem dX10_paper_6 : decode cX10_paper 6 = .ok (.bipush 100, 2) := by decide +kernel
theorem dX10_paper_8 : decode cX10_paper 8 = .ok (.invokestatic 85, 3) := by decide +kernel
theorem dX10_paper_11 : decode cX10_paper 11 = .ok (.ifCond .ne 5, 3) := by decide +kernel
theorem dX10_paper_14 : decode cX10_paper 14 = .ok (.iconst 0, 1) := by decide +kernel
theorem dX10_paper_15 : decode cX10_paper 15 = .ok (.ireturn, 1) := by decide +kernel
theorem dX10_paper_16 : decode cX10_paper 16 = .ok (.aload_n 0, 1) := by decide +kernel
theorem dX10_paper_17 : decode cX10_paper 17 = .ok (.iload_n 1, 1) := by decide +kernel
theorem dX10_paper_18 : decode cX10_paper 18 = .ok (.putfield 81, 3) := by decide +kernel
theorem dX10_paper_21 : decode cX10_paper 21 = .ok (.iconst 1, 1) := by decide +kernel
theorem dX10_paper_22 : decode cX10_paper 22 = .ok (.ireturn, 1) := by decide +kernel
theorem dX10_place_0 : decode cX10_place 0 = .ok (.iload_n 2, 1) := by decide +kernel
theorem dX10_place_1 : decode cX10_place 1 = .ok (.iload_n 3, 1) := by decide +kernel
theorem dX10_place_2 : decode cX10_place 2 = .ok (.iload 4, 2) := by decide +kernel
theorem dX10_place_4 : decode cX10_place 4 = .ok (.invokestatic 96, 3) := by decide +kernel
theorem dX10_place_7 : decode cX10_place 7 = .ok (.istore 5, 2) := by decide +kernel
theorem dX10_place_9 : decode cX10_place 9 = .ok (.iload 5, 2) := by decide +kernel
theorem dX10_place_11 : decode cX10_place 11 = .ok (.iconst (-1), 1) := by decide +kernel
theorem dX10_place_12 : decode cX10_place 12 = .ok (.if_icmp .eq 20, 3) := by decide +kernel
theorem dX10_place_15 : decode cX10_place 15 = .ok (.aload_n 0, 1) := by decide +kernel
theorem dX10_place_16 : decode cX10_place 16 = .ok (.getfield 66, 3) := by decide +kernel
theorem dX10_place_19 : decode cX10_place 19 = .ok (.iload_n 1, 1) := by decide +kernel
theorem dX10_place_20 : decode cX10_place 20 = .ok (.iload 5, 2) := by decide +kernel
theorem dX10_place_22 : decode cX10_place 22 = .ok (.invokevirtual 264, 3) := by decide +kernel
theorem dX10_place_25 : decode cX10_place 25 = .ok (.ifCond .eq 7, 3) := by decide +kernel
theorem dX10_place_28 : decode cX10_place 28 = .ok (.iconst 1, 1) := by decide +kernel
theorem dX10_place_29 : decode cX10_place 29 = .ok (.goto 4, 3) := by decide +kernel
theorem dX10_place_32 : decode cX10_place 32 = .ok (.iconst 0, 1) := by decide +kernel
theorem dX10_place_33 : decode cX10_place 33 = .ok (.ireturn, 1) := by decide +kernel
theorem dX10_fair_0 : decode cX10_fair 0 = .ok (.iload_n 1, 1) := by decide +kernel
theorem dX10_fair_1 : decode cX10_fair 1 = .ok (.bipush 21, 2) := by decide +kernel
theorem dX10_fair_3 : decode cX10_fair 3 = .ok (.invokestatic 85, 3) := by decide +kernel
theorem dX10_fair_6 : decode cX10_fair 6 = .ok (.ifCond .eq 18, 3) := by decide +kernel
theorem dX10_fair_9 : decode cX10_fair 9 = .ok (.aload_n 0, 1) := by decide +kernel
theorem dX10_fair_10 : decode cX10_fair 10 = .ok (.getfield 66, 3) := by decide +kernel
theorem dX10_fair_13 : decode cX10_fair 13 = .ok (.aload_n 0, 1) := by decide +kernel
theorem dX10_fair_14 : decode cX10_fair 14 = .ok (.getfield 21, 3) := by decide +kernel
theorem dX10_fair_17 : decode cX10_fair 17 = .ok (.iload_n 1, 1) := by decide +kernel
theorem dX10_fair_18 : decode cX10_fair 18 = .ok (.invokevirtual 266, 3) := by decide +kernel
theorem dX10_fair_21 : decode cX10_fair 21 = .ok (.goto 4, 3) := by decide +kernel
theorem dX10_fair_24 : decode cX10_fair 24 = .ok (.iconst (-1), 1) := by decide +kernel
theorem dX10_fair_25 : decode cX10_fair 25 = .ok (.ireturn, 1) := by decide +kernel
theorem dX10_may_0 : decode cX10_may 0 = .ok (.iload_n 1, 1) := by decide +kernel
theorem dX10_may_1 : decode cX10_may 1 = .ok (.iconst 4, 1) := by decide +kernel
theorem dX10_may_2 : decode cX10_may 2 = .ok (.invokestatic 85, 3) := by decide +kernel
theorem dX10_may_5 : decode cX10_may 5 = .ok (.ifCond .eq 11, 3) := by decide +kernel
theorem dX10_may_8 : decode cX10_may 8 = .ok (.iload_n 2, 1) := by decide +kernel
theorem dX10_may_9 : decode cX10_may 9 = .ok (.iconst 3, 1) := by decide +kernel
theorem dX10_may_10 : decode cX10_may 10 = .ok (.invokestatic 85, 3) := by decide +kernel
theorem dX10_may_13 : decode cX10_may 13 = .ok (.ifCond .ne 5, 3) := by decide +kernel
theorem dX10_may_16 : decode cX10_may 16 = .ok (.iconst (-1), 1) := by decide +kernel
theorem dX10_may_17 : decode cX10_may 17 = .ok (.ireturn, 1) := by decide +kernel
theorem dX10_may_18 : decode cX10_may 18 = .ok (.aload_n 0, 1) := by decide +kernel
theorem dX10_may_19 : decode cX10_may 19 = .ok (.getfield 52, 3) := by decide +kernel
theorem dX10_may_22 : decode cX10_may 22 = .ok (.aload_n 0, 1) := by decide +kernel
theorem dX10_may_23 : decode cX10_may 23 = .ok (.getfield 81, 3) := by decide +kernel
theorem dX10_may_26 : decode cX10_may 26 = .ok (.iconst (-1), 1) := by decide +kernel
theorem dX10_may_27 : decode cX10_may 27 = .ok (.if_icmp .ne 7, 3) := by decide +kernel
theorem dX10_may_30 : decode cX10_may 30 = .ok (.iconst 0, 1) := by decide +kernel
theorem dX10_may_31 : decode cX10_may 31 = .ok (.goto 7, 3) := by decide +kernel
theorem dX10_may_34 : decode cX10_may 34 = .ok (.aload_n 0, 1) := by decide +kernel
theorem dX10_may_35 : decode cX10_may 35 = .ok (.getfield 81, 3) := by decide +kernel
theorem dX10_may_38 : decode cX10_may 38 = .ok (.aload_n 0, 1) := by decide +kernel
theorem dX10_may_39 : decode cX10_may 39 = .ok (.getfield 59, 3) := by decide +kernel
theorem dX10_may_42 : decode cX10_may 42 = .ok (.invokevirtual 270, 3) := by decide +kernel
theorem dX10_may_45 : decode cX10_may 45 = .ok (.aload_n 0, 1) := by decide +kernel
theorem dX10_may_46 : decode cX10_may 46 = .ok (.getfield 59, 3) := by decide +kernel
theorem dX10_may_49 : decode cX10_may 49 = .ok (.aload_n 0, 1) := by decide +kernel
theorem dX10_may_50 : decode cX10_may 50 = .ok (.getfield 165, 3) := by decide +kernel
theorem dX10_may_53 : decode cX10_may 53 = .ok (.invokevirtual 273, 3) := by decide +kernel
theorem dX10_may_56 : decode cX10_may 56 = .ok (.aload_n 0, 1) := by decide +kernel
theorem dX10_may_57 : decode cX10_may 57 = .ok (.getfield 12, 3) := by decide +kernel
theorem dX10_may_60 : decode cX10_may 60 = .ok (.aload_n 0, 1) := by decide +kernel
theorem dX10_may_61 : decode cX10_may 61 = .ok (.getfield 165, 3) := by decide +kernel
theorem dX10_may_64 : decode cX10_may 64 = .ok (.invokevirtual 168, 3) := by decide +kernel
theorem dX10_may_67 : decode cX10_may 67 = .ok (.invokevirtual 276, 3) := by decide +kernel
theorem dX10_may_70 : decode cX10_may 70 = .ok (.aload_n 0, 1) := by decide +kernel
theorem dX10_may_71 : decode cX10_may 71 = .ok (.getfield 52, 3) := by decide +kernel
theorem dX10_may_74 : decode cX10_may 74 = .ok (.aload_n 0, 1) := by decide +kernel
theorem dX10_may_75 : decode cX10_may 75 = .ok (.getfield 165, 3) := by decide +kernel
theorem dX10_may_78 : decode cX10_may 78 = .ok (.bipush 24, 2) := by decide +kernel
theorem dX10_may_80 : decode cX10_may 80 = .ok (.idiv, 1) := by decide +kernel
theorem dX10_may_81 : decode cX10_may 81 = .ok (.aload_n 0, 1) := by decide +kernel
theorem dX10_may_82 : decode cX10_may 82 = .ok (.getfield 28, 3) := by decide +kernel
theorem dX10_may_85 : decode cX10_may 85 = .ok (.getfield 196, 3) := by decide +kernel
theorem dX10_may_88 : decode cX10_may 88 = .ok (.invokevirtual 225, 3) := by decide +kernel
theorem dX10_may_91 : decode cX10_may 91 = .ok (.aload_n 0, 1) := by decide +kernel
theorem dX10_may_92 : decode cX10_may 92 = .ok (.getfield 12, 3) := by decide +kernel
theorem dX10_may_95 : decode cX10_may 95 = .ok (.aload_n 0, 1) := by decide +kernel
theorem dX10_may_96 : decode cX10_may 96 = .ok (.getfield 165, 3) := by decide +kernel
theorem dX10_may_99 : decode cX10_may 99 = .ok (.invokevirtual 183, 3) := by decide +kernel
theorem dX10_may_102 : decode cX10_may 102 = .ok (.aload_n 0, 1) := by decide +kernel
theorem dX10_may_103 : decode cX10_may 103 = .ok (.getfield 28, 3) := by decide +kernel
theorem dX10_may_106 : decode cX10_may 106 = .ok (.getfield 193, 3) := by decide +kernel
theorem dX10_may_109 : decode cX10_may 109 = .ok (.ifCond .eq 7, 3) := by decide +kernel
theorem dX10_may_112 : decode cX10_may 112 = .ok (.iconst 0, 1) := by decide +kernel
theorem dX10_may_113 : decode cX10_may 113 = .ok (.goto 4, 3) := by decide +kernel
theorem dX10_may_116 : decode cX10_may 116 = .ok (.iconst 1, 1) := by decide +kernel
theorem dX10_may_117 : decode cX10_may 117 = .ok (.invokevirtual 280, 3) := by decide +kernel
theorem dX10_may_120 : decode cX10_may 120 = .ok (.aload_n 0, 1) := by decide +kernel
theorem dX10_may_121 : decode cX10_may 121 = .ok (.getfield 52, 3) := by decide +kernel
theorem dX10_may_124 : decode cX10_may 124 = .ok (.iload_n 2, 1) := by decide +kernel
theorem dX10_may_125 : decode cX10_may 125 = .ok (.iload_n 1, 1) := by decide +kernel
theorem dX10_may_126 : decode cX10_may 126 = .ok (.invokevirtual 283, 3) := by decide +kernel
theorem dX10_may_129 : decode cX10_may 129 = .ok (.ifCond .eq 7, 3) := by decide +kernel
theorem dX10_may_132 : decode cX10_may 132 = .ok (.iconst 1, 1) := by decide +kernel
theorem dX10_may_133 : decode cX10_may 133 = .ok (.goto 4, 3) := by decide +kernel
theorem dX10_may_136 : decode cX10_may 136 = .ok (.iconst 0, 1) := by decide +kernel
theorem dX10_may_137 : decode cX10_may 137 = .ok (.ireturn, 1) := by decide +kernel
theorem dX10_let_0 : decode cX10_let 0 = .ok (.iload_n 1, 1) := by decide +kernel
theorem dX10_let_1 : decode cX10_let 1 = .ok (.bipush 21, 2) := by decide +kernel
theorem dX10_let_3 : decode cX10_let 3 = .ok (.invokestatic 85, 3) := by decide +kernel
theorem dX10_let_6 : decode cX10_let 6 = .ok (.ifCond .eq 11, 3) := by decide +kernel
theorem dX10_let_9 : decode cX10_let 9 = .ok (.iload_n 2, 1) := by decide +kernel
theorem dX10_let_10 : decode cX10_let 10 = .ok (.iconst 2, 1) := by decide +kernel
theorem dX10_let_11 : decode cX10_let 11 = .ok (.invokestatic 85, 3) := by decide +kernel
theorem dX10_let_14 : decode cX10_let 14 = .ok (.ifCond .ne 5, 3) := by decide +kernel
theorem dX10_let_17 : decode cX10_let 17 = .ok (.iconst (-1), 1) := by decide +kernel
theorem dX10_let_18 : decode cX10_let 18 = .ok (.ireturn, 1) := by decide +kernel
theorem dX10_let_19 : decode cX10_let 19 = .ok (.aload_n 0, 1) := by decide +kernel
theorem dX10_let_20 : decode cX10_let 20 = .ok (.getfield 52, 3) := by decide +kernel
theorem dX10_let_23 : decode cX10_let 23 = .ok (.invokevirtual 286, 3) := by decide +kernel
theorem dX10_let_26 : decode cX10_let 26 = .ok (.iload_n 2, 1) := by decide +kernel
theorem dX10_let_27 : decode cX10_let 27 = .ok (.ifCond .ne 14, 3) := by decide +kernel
theorem dX10_let_30 : decode cX10_let 30 = .ok (.aload_n 0, 1) := by decide +kernel
theorem dX10_let_31 : decode cX10_let 31 = .ok (.getfield 52, 3) := by decide +kernel
theorem dX10_let_34 : decode cX10_let 34 = .ok (.iload_n 1, 1) := by decide +kernel
theorem dX10_let_35 : decode cX10_let 35 = .ok (.invokevirtual 289, 3) := by decide +kernel
theorem dX10_let_38 : decode cX10_let 38 = .ok (.goto 11, 3) := by decide +kernel
theorem dX10_let_41 : decode cX10_let 41 = .ok (.aload_n 0, 1) := by decide +kernel
theorem dX10_let_42 : decode cX10_let 42 = .ok (.getfield 52, 3) := by decide +kernel
theorem dX10_let_45 : decode cX10_let 45 = .ok (.iload_n 1, 1) := by decide +kernel
theorem dX10_let_46 : decode cX10_let 46 = .ok (.invokevirtual 292, 3) := by decide +kernel
theorem dX10_let_49 : decode cX10_let 49 = .ok (.ireturn, 1) := by decide +kernel
theorem dX10_port_0 : decode cX10_port 0 = .ok (.iload_n 1, 1) := by decide +kernel
theorem dX10_port_1 : decode cX10_port 1 = .ok (.iconst 1, 1) := by decide +kernel
theorem dX10_port_2 : decode cX10_port 2 = .ok (.if_icmp .lt 19, 3) := by decide +kernel
theorem dX10_port_5 : decode cX10_port 5 = .ok (.iload_n 1, 1) := by decide +kernel
theorem dX10_port_6 : decode cX10_port 6 = .ok (.sipush 400, 3) := by decide +kernel
theorem dX10_port_9 : decode cX10_port 9 = .ok (.if_icmp .gt 12, 3) := by decide +kernel
theorem dX10_port_12 : decode cX10_port 12 = .ok (.aload_n 0, 1) := by decide +kernel
theorem dX10_port_13 : decode cX10_port 13 = .ok (.getfield 295, 3) := by decide +kernel
theorem dX10_port_16 : decode cX10_port 16 = .ok (.bipush 6, 2) := by decide +kernel
theorem dX10_port_18 : decode cX10_port 18 = .ok (.if_icmp .lt 5, 3) := by decide +kernel
theorem dX10_port_21 : decode cX10_port 21 = .ok (.iconst (-1), 1) := by decide +kernel
theorem dX10_port_22 : decode cX10_port 22 = .ok (.ireturn, 1) := by decide +kernel
theorem dX10_port_23 : decode cX10_port 23 = .ok (.aload_n 0, 1) := by decide +kernel
theorem dX10_port_24 : decode cX10_port 24 = .ok (.getfield 77, 3) := by decide +kernel
theorem dX10_port_27 : decode cX10_port 27 = .ok (.aload_n 0, 1) := by decide +kernel
theorem dX10_port_28 : decode cX10_port 28 = .ok (.getfield 295, 3) := by decide +kernel
theorem dX10_port_31 : decode cX10_port 31 = .ok (.iload_n 1, 1) := by decide +kernel
theorem dX10_port_32 : decode cX10_port 32 = .ok (.iastore, 1) := by decide +kernel
theorem dX10_port_33 : decode cX10_port 33 = .ok (.aload_n 0, 1) := by decide +kernel
theorem dX10_port_34 : decode cX10_port 34 = .ok (.dup, 1) := by decide +kernel
theorem dX10_port_35 : decode cX10_port 35 = .ok (.getfield 295, 3) := by decide +kernel
theorem dX10_port_38 : decode cX10_port 38 = .ok (.iconst 1, 1) := by decide +kernel
theorem dX10_port_39 : decode cX10_port 39 = .ok (.iadd, 1) := by decide +kernel
theorem dX10_port_40 : decode cX10_port 40 = .ok (.putfield 295, 3) := by decide +kernel
theorem dX10_port_43 : decode cX10_port 43 = .ok (.aload_n 0, 1) := by decide +kernel
theorem dX10_port_44 : decode cX10_port 44 = .ok (.getfield 295, 3) := by decide +kernel
theorem dX10_port_47 : decode cX10_port 47 = .ok (.iconst 1, 1) := by decide +kernel
theorem dX10_port_48 : decode cX10_port 48 = .ok (.isub, 1) := by decide +kernel
theorem dX10_port_49 : decode cX10_port 49 = .ok (.ireturn, 1) := by decide +kernel
theorem dX10_reach_0 : decode cX10_reach 0 = .ok (.iload_n 1, 1) := by decide +kernel
theorem dX10_reach_1 : decode cX10_reach 1 = .ok (.iconst (-1), 1) := by decide +kernel
theorem dX10_reach_2 : decode cX10_reach 2 = .ok (.if_icmp .ne 10, 3) := by decide +kernel
theorem dX10_reach_5 : decode cX10_reach 5 = .ok (.aload_n 0, 1) := by decide +kernel
theorem dX10_reach_6 : decode cX10_reach 6 = .ok (.invokevirtual 298, 3) := by decide +kernel
theorem dX10_reach_9 : decode cX10_reach 9 = .ok (.goto 4, 3) := by decide +kernel
theorem dX10_reach_12 : decode cX10_reach 12 = .ok (.iload_n 1, 1) := by decide +kernel
theorem dX10_reach_13 : decode cX10_reach 13 = .ok (.istore_n 2, 1) := by decide +kernel
theorem dX10_reach_14 : decode cX10_reach 14 = .ok (.iload_n 2, 1) := by decide +kernel
theorem dX10_reach_15 : decode cX10_reach 15 = .ok (.aload_n 0, 1) := by decide +kernel
theorem dX10_reach_16 : decode cX10_reach 16 = .ok (.getfield 295, 3) := by decide +kernel
theorem dX10_reach_19 : decode cX10_reach 19 = .ok (.invokestatic 85, 3) := by decide +kernel
theorem dX10_reach_22 : decode cX10_reach 22 = .ok (.ifCond .eq 24, 3) := by decide +kernel
theorem dX10_reach_25 : decode cX10_reach 25 = .ok (.aload_n 0, 1) := by decide +kernel
theorem dX10_reach_26 : decode cX10_reach 26 = .ok (.getfield 28, 3) := by decide +kernel
theorem dX10_reach_29 : decode cX10_reach 29 = .ok (.getfield 193, 3) := by decide +kernel
theorem dX10_reach_32 : decode cX10_reach 32 = .ok (.ifCond .eq 14, 3) := by decide +kernel
theorem dX10_reach_35 : decode cX10_reach 35 = .ok (.aload_n 0, 1) := by decide +kernel
theorem dX10_reach_36 : decode cX10_reach 36 = .ok (.getfield 28, 3) := by decide +kernel
theorem dX10_reach_39 : decode cX10_reach 39 = .ok (.getfield 219, 3) := by decide +kernel
theorem dX10_reach_42 : decode cX10_reach 42 = .ok (.iconst (-1), 1) := by decide +kernel
theorem dX10_reach_43 : decode cX10_reach 43 = .ok (.if_icmp .eq 5, 3) := by decide +kernel
theorem dX10_reach_46 : decode cX10_reach 46 = .ok (.iconst (-1), 1) := by decide +kernel
theorem dX10_reach_47 : decode cX10_reach 47 = .ok (.ireturn, 1) := by decide +kernel
theorem dX10_reach_48 : decode cX10_reach 48 = .ok (.aload_n 0, 1) := by decide +kernel
theorem dX10_reach_49 : decode cX10_reach 49 = .ok (.getfield 165, 3) := by decide +kernel
theorem dX10_reach_52 : decode cX10_reach 52 = .ok (.aload_n 0, 1) := by decide +kernel
theorem dX10_reach_53 : decode cX10_reach 53 = .ok (.getfield 77, 3) := by decide +kernel
theorem dX10_reach_56 : decode cX10_reach 56 = .ok (.iload_n 2, 1) := by decide +kernel
theorem dX10_reach_57 : decode cX10_reach 57 = .ok (.iaload, 1) := by decide +kernel
theorem dX10_reach_58 : decode cX10_reach 58 = .ok (.iadd, 1) := by decide +kernel
theorem dX10_reach_59 : decode cX10_reach 59 = .ok (.istore_n 3, 1) := by decide +kernel
theorem dX10_reach_60 : decode cX10_reach 60 = .ok (.iload_n 3, 1) := by decide +kernel
theorem dX10_reach_61 : decode cX10_reach 61 = .ok (.sipush 719, 3) := by decide +kernel
theorem dX10_reach_64 : decode cX10_reach 64 = .ok (.if_icmp .le 5, 3) := by decide +kernel
theorem dX10_reach_67 : decode cX10_reach 67 = .ok (.iconst (-1), 1) := by decide +kernel
theorem dX10_reach_68 : decode cX10_reach 68 = .ok (.ireturn, 1) := by decide +kernel
theorem dX10_reach_69 : decode cX10_reach 69 = .ok (.aload_n 0, 1) := by decide +kernel
theorem dX10_reach_70 : decode cX10_reach 70 = .ok (.iload_n 3, 1) := by decide +kernel
theorem dX10_reach_71 : decode cX10_reach 71 = .ok (.invokevirtual 301, 3) := by decide +kernel
theorem dX10_reach_74 : decode cX10_reach 74 = .ok (.istore 4, 2) := by decide +kernel
theorem dX10_reach_76 : decode cX10_reach 76 = .ok (.iload_n 1, 1) := by decide +kernel
theorem dX10_reach_77 : decode cX10_reach 77 = .ok (.iconst (-1), 1) := by decide +kernel
theorem dX10_reach_78 : decode cX10_reach 78 = .ok (.if_icmp .ne 14, 3) := by decide +kernel
theorem dX10_reach_81 : decode cX10_reach 81 = .ok (.iload 4, 2) := by decide +kernel
theorem dX10_reach_83 : decode cX10_reach 83 = .ok (.ifCond .eq 7, 3) := by decide +kernel
theorem dX10_reach_86 : decode cX10_reach 86 = .ok (.iload_n 2, 1) := by decide +kernel
theorem dX10_reach_87 : decode cX10_reach 87 = .ok (.goto 4, 3) := by decide +kernel
theorem dX10_reach_90 : decode cX10_reach 90 = .ok (.iconst (-1), 1) := by decide +kernel
theorem dX10_reach_91 : decode cX10_reach 91 = .ok (.ireturn, 1) := by decide +kernel
theorem dX10_reach_92 : decode cX10_reach 92 = .ok (.iload 4, 2) := by decide +kernel
theorem dX10_reach_94 : decode cX10_reach 94 = .ok (.ifCond .eq 7, 3) := by decide +kernel
theorem dX10_reach_97 : decode cX10_reach 97 = .ok (.iconst 1, 1) := by decide +kernel
theorem dX10_reach_98 : decode cX10_reach 98 = .ok (.goto 4, 3) := by decide +kernel
theorem dX10_reach_101 : decode cX10_reach 101 = .ok (.iconst 0, 1) := by decide +kernel
theorem dX10_reach_102 : decode cX10_reach 102 = .ok (.ireturn, 1) := by decide +kernel
theorem dX10_list_0 : decode cX10_list 0 = .ok (.aload_n 0, 1) := by decide +kernel
theorem dX10_list_1 : decode cX10_list 1 = .ok (.getfield 73, 3) := by decide +kernel
theorem dX10_list_4 : decode cX10_list 4 = .ok (.iload_n 1, 1) := by decide +kernel
theorem dX10_list_5 : decode cX10_list 5 = .ok (.iload_n 2, 1) := by decide +kernel
theorem dX10_list_6 : decode cX10_list 6 = .ok (.iload_n 3, 1) := by decide +kernel
theorem dX10_list_7 : decode cX10_list 7 = .ok (.iload 4, 2) := by decide +kernel
theorem dX10_list_9 : decode cX10_list 9 = .ok (.invokevirtual 304, 3) := by decide +kernel
theorem dX10_list_12 : decode cX10_list 12 = .ok (.ireturn, 1) := by decide +kernel
theorem dX10_risk_0 : decode cX10_risk 0 = .ok (.iload 4, 2) := by decide +kernel
theorem dX10_risk_2 : decode cX10_risk 2 = .ok (.iconst 2, 1) := by decide +kernel
theorem dX10_risk_3 : decode cX10_risk 3 = .ok (.if_icmp .ne 11, 3) := by decide +kernel
theorem dX10_risk_6 : decode cX10_risk 6 = .ok (.aload_n 0, 1) := by decide +kernel
theorem dX10_risk_7 : decode cX10_risk 7 = .ok (.getfield 73, 3) := by decide +kernel
theorem dX10_risk_10 : decode cX10_risk 10 = .ok (.invokevirtual 308, 3) := by decide +kernel
theorem dX10_risk_13 : decode cX10_risk 13 = .ok (.ireturn, 1) := by decide +kernel
theorem dX10_risk_14 : decode cX10_risk 14 = .ok (.iload 4, 2) := by decide +kernel
theorem dX10_risk_16 : decode cX10_risk 16 = .ok (.ifCond .eq 9, 3) := by decide +kernel
theorem dX10_risk_19 : decode cX10_risk 19 = .ok (.iload 4, 2) := by decide +kernel
theorem dX10_risk_21 : decode cX10_risk 21 = .ok (.iconst 1, 1) := by decide +kernel
theorem dX10_risk_22 : decode cX10_risk 22 = .ok (.if_icmp .ne 26, 3) := by decide +kernel
theorem dX10_risk_25 : decode cX10_risk 25 = .ok (.aload_n 0, 1) := by decide +kernel
theorem dX10_risk_26 : decode cX10_risk 26 = .ok (.getfield 73, 3) := by decide +kernel
theorem dX10_risk_29 : decode cX10_risk 29 = .ok (.iload_n 1, 1) := by decide +kernel
theorem dX10_risk_30 : decode cX10_risk 30 = .ok (.iload_n 2, 1) := by decide +kernel
theorem dX10_risk_31 : decode cX10_risk 31 = .ok (.iload_n 3, 1) := by decide +kernel
theorem dX10_risk_32 : decode cX10_risk 32 = .ok (.iload 4, 2) := by decide +kernel
theorem dX10_risk_34 : decode cX10_risk 34 = .ok (.ifCond .ne 7, 3) := by decide +kernel
theorem dX10_risk_37 : decode cX10_risk 37 = .ok (.iconst 1, 1) := by decide +kernel
theorem dX10_risk_38 : decode cX10_risk 38 = .ok (.goto 4, 3) := by decide +kernel
theorem dX10_risk_41 : decode cX10_risk 41 = .ok (.iconst 0, 1) := by decide +kernel
theorem dX10_risk_42 : decode cX10_risk 42 = .ok (.invokevirtual 311, 3) := by decide +kernel
theorem dX10_risk_45 : decode cX10_risk 45 = .ok (.goto 4, 3) := by decide +kernel
theorem dX10_risk_48 : decode cX10_risk 48 = .ok (.iconst (-1), 1) := by decide +kernel
theorem dX10_risk_49 : decode cX10_risk 49 = .ok (.istore 5, 2) := by decide +kernel
theorem dX10_risk_51 : decode cX10_risk 51 = .ok (.iload 5, 2) := by decide +kernel
theorem dX10_risk_53 : decode cX10_risk 53 = .ok (.iconst (-1), 1) := by decide +kernel
theorem dX10_risk_54 : decode cX10_risk 54 = .ok (.if_icmp .ne 7, 3) := by decide +kernel
theorem dX10_risk_57 : decode cX10_risk 57 = .ok (.iconst (-1), 1) := by decide +kernel
theorem dX10_risk_58 : decode cX10_risk 58 = .ok (.goto 10, 3) := by decide +kernel
theorem dX10_risk_61 : decode cX10_risk 61 = .ok (.iload 5, 2) := by decide +kernel
theorem dX10_risk_63 : decode cX10_risk 63 = .ok (.iconst 1, 1) := by decide +kernel
theorem dX10_risk_64 : decode cX10_risk 64 = .ok (.iadd, 1) := by decide +kernel
theorem dX10_risk_65 : decode cX10_risk 65 = .ok (.iload 4, 2) := by decide +kernel
theorem dX10_risk_67 : decode cX10_risk 67 = .ok (.iadd, 1) := by decide +kernel
theorem dX10_risk_68 : decode cX10_risk 68 = .ok (.ireturn, 1) := by decide +kernel
theorem dX10_within_0 : decode cX10_within 0 = .ok (.iload_n 0, 1) := by decide +kernel
theorem dX10_within_1 : decode cX10_within 1 = .ok (.ifCond .lt 12, 3) := by decide +kernel
theorem dX10_within_4 : decode cX10_within 4 = .ok (.iload_n 0, 1) := by decide +kernel
theorem dX10_within_5 : decode cX10_within 5 = .ok (.iload_n 1, 1) := by decide +kernel
theorem dX10_within_6 : decode cX10_within 6 = .ok (.if_icmp .ge 7, 3) := by decide +kernel
theorem dX10_within_9 : decode cX10_within 9 = .ok (.iconst 1, 1) := by decide +kernel
theorem dX10_within_10 : decode cX10_within 10 = .ok (.goto 4, 3) := by decide +kernel
theorem dX10_within_13 : decode cX10_within 13 = .ok (.iconst 0, 1) := by decide +kernel
theorem dX10_within_14 : decode cX10_within 14 = .ok (.ireturn, 1) := by decide +kernel
theorem dX10_held_0 : decode cX10_held 0 = .ok (.iconst 0, 1) := by decide +kernel
theorem dX10_held_1 : decode cX10_held 1 = .ok (.iload_n 0, 1) := by decide +kernel
theorem dX10_held_2 : decode cX10_held 2 = .ok (.iload_n 1, 1) := by decide +kernel
theorem dX10_held_3 : decode cX10_held 3 = .ok (.invokestatic 314, 3) := by decide +kernel
theorem dX10_held_6 : decode cX10_held 6 = .ok (.invokestatic 242, 3) := by decide +kernel
theorem dX10_held_9 : decode cX10_held 9 = .ok (.ireturn, 1) := by decide +kernel
theorem dX10_heapCell_0 : decode cX10_heapCell 0 = .ok (.iload_n 0, 1) := by decide +kernel
theorem dX10_heapCell_1 : decode cX10_heapCell 1 = .ok (.bipush 8, 2) := by decide +kernel
theorem dX10_heapCell_3 : decode cX10_heapCell 3 = .ok (.invokestatic 85, 3) := by decide +kernel
theorem dX10_heapCell_6 : decode cX10_heapCell 6 = .ok (.ifCond .eq 20, 3) := by decide +kernel
theorem dX10_heapCell_9 : decode cX10_heapCell 9 = .ok (.iload_n 1, 1) := by decide +kernel
theorem dX10_heapCell_10 : decode cX10_heapCell 10 = .ok (.bipush 8, 2) := by decide +kernel
theorem dX10_heapCell_12 : decode cX10_heapCell 12 = .ok (.invokestatic 85, 3) := by decide +kernel
theorem dX10_heapCell_15 : decode cX10_heapCell 15 = .ok (.ifCond .eq 11, 3) := by decide +kernel
theorem dX10_heapCell_18 : decode cX10_heapCell 18 = .ok (.iload_n 2, 1) := by decide +kernel
theorem dX10_heapCell_19 : decode cX10_heapCell 19 = .ok (.iconst 4, 1) := by decide +kernel
theorem dX10_heapCell_20 : decode cX10_heapCell 20 = .ok (.invokestatic 85, 3) := by decide +kernel
theorem dX10_heapCell_23 : decode cX10_heapCell 23 = .ok (.ifCond .ne 5, 3) := by decide +kernel
theorem dX10_heapCell_26 : decode cX10_heapCell 26 = .ok (.iconst (-1), 1) := by decide +kernel
theorem dX10_heapCell_27 : decode cX10_heapCell 27 = .ok (.ireturn, 1) := by decide +kernel
theorem dX10_heapCell_28 : decode cX10_heapCell 28 = .ok (.iload_n 0, 1) := by decide +kernel
theorem dX10_heapCell_29 : decode cX10_heapCell 29 = .ok (.bipush 8, 2) := by decide +kernel
theorem dX10_heapCell_31 : decode cX10_heapCell 31 = .ok (.imul, 1) := by decide +kernel
theorem dX10_heapCell_32 : decode cX10_heapCell 32 = .ok (.iload_n 1, 1) := by decide +kernel
theorem dX10_heapCell_33 : decode cX10_heapCell 33 = .ok (.iadd, 1) := by decide +kernel
theorem dX10_heapCell_34 : decode cX10_heapCell 34 = .ok (.iconst 4, 1) := by decide +kernel
theorem dX10_heapCell_35 : decode cX10_heapCell 35 = .ok (.imul, 1) := by decide +kernel
theorem dX10_heapCell_36 : decode cX10_heapCell 36 = .ok (.iload_n 2, 1) := by decide +kernel
theorem dX10_heapCell_37 : decode cX10_heapCell 37 = .ok (.iadd, 1) := by decide +kernel
theorem dX10_heapCell_38 : decode cX10_heapCell 38 = .ok (.ireturn, 1) := by decide +kernel
theorem dX10_holdCell_0 : decode cX10_holdCell 0 = .ok (.iload_n 0, 1) := by decide +kernel
theorem dX10_holdCell_1 : decode cX10_holdCell 1 = .ok (.iconst 4, 1) := by decide +kernel
theorem dX10_holdCell_2 : decode cX10_holdCell 2 = .ok (.invokestatic 85, 3) := by decide +kernel
theorem dX10_holdCell_5 : decode cX10_holdCell 5 = .ok (.ifCond .eq 21, 3) := by decide +kernel
theorem dX10_holdCell_8 : decode cX10_holdCell 8 = .ok (.iload_n 1, 1) := by decide +kernel
theorem dX10_holdCell_9 : decode cX10_holdCell 9 = .ok (.bipush 6, 2) := by decide +kernel
theorem dX10_holdCell_11 : decode cX10_holdCell 11 = .ok (.invokestatic 85, 3) := by decide +kernel
theorem dX10_holdCell_14 : decode cX10_holdCell 14 = .ok (.ifCond .eq 12, 3) := by decide +kernel
theorem dX10_holdCell_17 : decode cX10_holdCell 17 = .ok (.iload_n 2, 1) := by decide +kernel
theorem dX10_holdCell_18 : decode cX10_holdCell 18 = .ok (.bipush 6, 2) := by decide +kernel
theorem dX10_holdCell_20 : decode cX10_holdCell 20 = .ok (.invokestatic 85, 3) := by decide +kernel
theorem dX10_holdCell_23 : decode cX10_holdCell 23 = .ok (.ifCond .ne 5, 3) := by decide +kernel
theorem dX10_holdCell_26 : decode cX10_holdCell 26 = .ok (.iconst (-1), 1) := by decide +kernel
theorem dX10_holdCell_27 : decode cX10_holdCell 27 = .ok (.ireturn, 1) := by decide +kernel
theorem dX10_holdCell_28 : decode cX10_holdCell 28 = .ok (.iload_n 0, 1) := by decide +kernel
theorem dX10_holdCell_29 : decode cX10_holdCell 29 = .ok (.bipush 6, 2) := by decide +kernel
theorem dX10_holdCell_31 : decode cX10_holdCell 31 = .ok (.imul, 1) := by decide +kernel
theorem dX10_holdCell_32 : decode cX10_holdCell 32 = .ok (.iload_n 1, 1) := by decide +kernel
theorem dX10_holdCell_33 : decode cX10_holdCell 33 = .ok (.iadd, 1) := by decide +kernel
theorem dX10_holdCell_34 : decode cX10_holdCell 34 = .ok (.bipush 6, 2) := by decide +kernel
theorem dX10_holdCell_36 : decode cX10_holdCell 36 = .ok (.imul, 1) := by decide +kernel
theorem dX10_holdCell_37 : decode cX10_holdCell 37 = .ok (.iload_n 2, 1) := by decide +kernel
theorem dX10_holdCell_38 : decode cX10_holdCell 38 = .ok (.iadd, 1) := by decide +kernel
theorem dX10_holdCell_39 : decode cX10_holdCell 39 = .ok (.ireturn, 1) := by decide +kernel
theorem dX10_cellOf_0 : decode cX10_cellOf 0 = .ok (.iload_n 0, 1) := by decide +kernel
theorem dX10_cellOf_1 : decode cX10_cellOf 1 = .ok (.iconst (-1), 1) := by decide +kernel
theorem dX10_cellOf_2 : decode cX10_cellOf 2 = .ok (.if_icmp .ne 12, 3) := by decide +kernel
theorem dX10_cellOf_5 : decode cX10_cellOf 5 = .ok (.iload_n 1, 1) := by decide +kernel
theorem dX10_cellOf_6 : decode cX10_cellOf 6 = .ok (.iload_n 2, 1) := by decide +kernel
theorem dX10_cellOf_7 : decode cX10_cellOf 7 = .ok (.iload_n 3, 1) := by decide +kernel
theorem dX10_cellOf_8 : decode cX10_cellOf 8 = .ok (.invokestatic 96, 3) := by decide +kernel
theorem dX10_cellOf_11 : decode cX10_cellOf 11 = .ok (.goto 9, 3) := by decide +kernel
theorem dX10_cellOf_14 : decode cX10_cellOf 14 = .ok (.iload_n 0, 1) := by decide +kernel
theorem dX10_cellOf_15 : decode cX10_cellOf 15 = .ok (.iload_n 1, 1) := by decide +kernel
theorem dX10_cellOf_16 : decode cX10_cellOf 16 = .ok (.iload_n 3, 1) := by decide +kernel
theorem dX10_cellOf_17 : decode cX10_cellOf 17 = .ok (.invokestatic 190, 3) := by decide +kernel
theorem dX10_cellOf_20 : decode cX10_cellOf 20 = .ok (.ireturn, 1) := by decide +kernel
theorem dX10_stacksOf_0 : decode cX10_stacksOf 0 = .ok (.iload_n 1, 1) := by decide +kernel
theorem dX10_stacksOf_1 : decode cX10_stacksOf 1 = .ok (.iconst (-1), 1) := by decide +kernel
theorem dX10_stacksOf_2 : decode cX10_stacksOf 2 = .ok (.if_icmp .ne 10, 3) := by decide +kernel
theorem dX10_stacksOf_5 : decode cX10_stacksOf 5 = .ok (.aload_n 0, 1) := by decide +kernel
theorem dX10_stacksOf_6 : decode cX10_stacksOf 6 = .ok (.getfield 21, 3) := by decide +kernel
theorem dX10_stacksOf_9 : decode cX10_stacksOf 9 = .ok (.goto 10, 3) := by decide +kernel
theorem dX10_stacksOf_12 : decode cX10_stacksOf 12 = .ok (.aload_n 0, 1) := by decide +kernel
theorem dX10_stacksOf_13 : decode cX10_stacksOf 13 = .ok (.getfield 28, 3) := by decide +kernel
theorem dX10_stacksOf_16 : decode cX10_stacksOf 16 = .ok (.getfield 196, 3) := by decide +kernel
theorem dX10_stacksOf_19 : decode cX10_stacksOf 19 = .ok (.areturn, 1) := by decide +kernel
theorem dX10_columnArm_0 : decode cX10_columnArm 0 = .ok (.iconst 2, 1) := by decide +kernel
theorem dX10_columnArm_1 : decode cX10_columnArm 1 = .ok (.iload_n 0, 1) := by decide +kernel
theorem dX10_columnArm_2 : decode cX10_columnArm 2 = .ok (.imul, 1) := by decide +kernel
theorem dX10_columnArm_3 : decode cX10_columnArm 3 = .ok (.iconst 5, 1) := by decide +kernel
theorem dX10_columnArm_4 : decode cX10_columnArm 4 = .ok (.isub, 1) := by decide +kernel
theorem dX10_columnArm_5 : decode cX10_columnArm 5 = .ok (.ireturn, 1) := by decide +kernel
theorem dX10_worstOf_0 : decode cX10_worstOf 0 = .ok (.iload_n 0, 1) := by decide +kernel
theorem dX10_worstOf_1 : decode cX10_worstOf 1 = .ok (.bipush 6, 2) := by decide +kernel
theorem dX10_worstOf_3 : decode cX10_worstOf 3 = .ok (.idiv, 1) := by decide +kernel
theorem dX10_worstOf_4 : decode cX10_worstOf 4 = .ok (.istore_n 1, 1) := by decide +kernel
theorem dX10_worstOf_5 : decode cX10_worstOf 5 = .ok (.bipush 6, 2) := by decide +kernel
theorem dX10_worstOf_7 : decode cX10_worstOf 7 = .ok (.iload_n 1, 1) := by decide +kernel
theorem dX10_worstOf_8 : decode cX10_worstOf 8 = .ok (.imul, 1) := by decide +kernel
theorem dX10_worstOf_9 : decode cX10_worstOf 9 = .ok (.bipush 6, 2) := by decide +kernel
theorem dX10_worstOf_11 : decode cX10_worstOf 11 = .ok (.iload_n 1, 1) := by decide +kernel
theorem dX10_worstOf_12 : decode cX10_worstOf 12 = .ok (.isub, 1) := by decide +kernel
theorem dX10_worstOf_13 : decode cX10_worstOf 13 = .ok (.imul, 1) := by decide +kernel
theorem dX10_worstOf_14 : decode cX10_worstOf 14 = .ok (.iload_n 0, 1) := by decide +kernel
theorem dX10_worstOf_15 : decode cX10_worstOf 15 = .ok (.bipush 6, 2) := by decide +kernel
theorem dX10_worstOf_17 : decode cX10_worstOf 17 = .ok (.irem, 1) := by decide +kernel
theorem dX10_worstOf_18 : decode cX10_worstOf 18 = .ok (.iconst 5, 1) := by decide +kernel
theorem dX10_worstOf_19 : decode cX10_worstOf 19 = .ok (.iload_n 1, 1) := by decide +kernel
theorem dX10_worstOf_20 : decode cX10_worstOf 20 = .ok (.isub, 1) := by decide +kernel
theorem dX10_worstOf_21 : decode cX10_worstOf 21 = .ok (.invokestatic 317, 3) := by decide +kernel
theorem dX10_worstOf_24 : decode cX10_worstOf 24 = .ok (.imul, 1) := by decide +kernel
theorem dX10_worstOf_25 : decode cX10_worstOf 25 = .ok (.iadd, 1) := by decide +kernel
theorem dX10_worstOf_26 : decode cX10_worstOf 26 = .ok (.ireturn, 1) := by decide +kernel
theorem dX10_nearestPort_0 : decode cX10_nearestPort 0 = .ok (.iconst (-1), 1) := by decide +kernel
theorem dX10_nearestPort_1 : decode cX10_nearestPort 1 = .ok (.istore_n 1, 1) := by decide +kernel
theorem dX10_nearestPort_2 : decode cX10_nearestPort 2 = .ok (.iconst 0, 1) := by decide +kernel
theorem dX10_nearestPort_3 : decode cX10_nearestPort 3 = .ok (.istore_n 2, 1) := by decide +kernel
theorem dX10_nearestPort_4 : decode cX10_nearestPort 4 = .ok (.iload_n 2, 1) := by decide +kernel
theorem dX10_nearestPort_5 : decode cX10_nearestPort 5 = .ok (.aload_n 0, 1) := by decide +kernel
theorem dX10_nearestPort_6 : decode cX10_nearestPort 6 = .ok (.getfield 295, 3) := by decide +kernel
theorem dX10_nearestPort_9 : decode cX10_nearestPort 9 = .ok (.if_icmp .ge 37, 3) := by decide +kernel
theorem dX10_nearestPort_12 : decode cX10_nearestPort 12 = .ok (.iload_n 2, 1) := by decide +kernel
theorem dX10_nearestPort_13 : decode cX10_nearestPort 13 = .ok (.bipush 6, 2) := by decide +kernel
theorem dX10_nearestPort_15 : decode cX10_nearestPort 15 = .ok (.if_icmp .ge 31, 3) := by decide +kernel
theorem dX10_nearestPort_18 : decode cX10_nearestPort 18 = .ok (.iload_n 1, 1) := by decide +kernel
theorem dX10_nearestPort_19 : decode cX10_nearestPort 19 = .ok (.iconst (-1), 1) := by decide +kernel
theorem dX10_nearestPort_20 : decode cX10_nearestPort 20 = .ok (.if_icmp .eq 18, 3) := by decide +kernel
theorem dX10_nearestPort_23 : decode cX10_nearestPort 23 = .ok (.aload_n 0, 1) := by decide +kernel
theorem dX10_nearestPort_24 : decode cX10_nearestPort 24 = .ok (.getfield 77, 3) := by decide +kernel
theorem dX10_nearestPort_27 : decode cX10_nearestPort 27 = .ok (.iload_n 2, 1) := by decide +kernel
theorem dX10_nearestPort_28 : decode cX10_nearestPort 28 = .ok (.iaload, 1) := by decide +kernel
theorem dX10_nearestPort_29 : decode cX10_nearestPort 29 = .ok (.aload_n 0, 1) := by decide +kernel
theorem dX10_nearestPort_30 : decode cX10_nearestPort 30 = .ok (.getfield 77, 3) := by decide +kernel
theorem dX10_nearestPort_33 : decode cX10_nearestPort 33 = .ok (.iload_n 1, 1) := by decide +kernel
theorem dX10_nearestPort_34 : decode cX10_nearestPort 34 = .ok (.iaload, 1) := by decide +kernel
theorem dX10_nearestPort_35 : decode cX10_nearestPort 35 = .ok (.if_icmp .ge 5, 3) := by decide +kernel
theorem dX10_nearestPort_38 : decode cX10_nearestPort 38 = .ok (.iload_n 2, 1) := by decide +kernel
theorem dX10_nearestPort_39 : decode cX10_nearestPort 39 = .ok (.istore_n 1, 1) := by decide +kernel
theorem dX10_nearestPort_40 : decode cX10_nearestPort 40 = .ok (.iinc 2 1, 3) := by decide +kernel
theorem dX10_nearestPort_43 : decode cX10_nearestPort 43 = .ok (.goto (-39), 3) := by decide +kernel
theorem dX10_nearestPort_46 : decode cX10_nearestPort 46 = .ok (.iload_n 1, 1) := by decide +kernel
theorem dX10_nearestPort_47 : decode cX10_nearestPort 47 = .ok (.ireturn, 1) := by decide +kernel
theorem dX10_staysTill_0 : decode cX10_staysTill 0 = .ok (.aload_n 0, 1) := by decide +kernel
theorem dX10_staysTill_1 : decode cX10_staysTill 1 = .ok (.getfield 32, 3) := by decide +kernel
theorem dX10_staysTill_4 : decode cX10_staysTill 4 = .ok (.aload_n 0, 1) := by decide +kernel
theorem dX10_staysTill_5 : decode cX10_staysTill 5 = .ok (.getfield 28, 3) := by decide +kernel
theorem dX10_staysTill_8 : decode cX10_staysTill 8 = .ok (.invokevirtual 320, 3) := by decide +kernel
theorem dX10_staysTill_11 : decode cX10_staysTill 11 = .ok (.aload_n 0, 1) := by decide +kernel
theorem dX10_staysTill_12 : decode cX10_staysTill 12 = .ok (.getfield 165, 3) := by decide +kernel
theorem dX10_staysTill_15 : decode cX10_staysTill 15 = .ok (.istore_n 2, 1) := by decide +kernel
theorem dX10_staysTill_16 : decode cX10_staysTill 16 = .ok (.iload_n 2, 1) := by decide +kernel
theorem dX10_staysTill_17 : decode cX10_staysTill 17 = .ok (.iload_n 1, 1) := by decide +kernel
theorem dX10_staysTill_18 : decode cX10_staysTill 18 = .ok (.if_icmp .ge 59, 3) := by decide +kernel
theorem dX10_staysTill_21 : decode cX10_staysTill 21 = .ok (.aload_n 0, 1) := by decide +kernel
theorem dX10_staysTill_22 : decode cX10_staysTill 22 = .ok (.getfield 32, 3) := by decide +kernel
theorem dX10_staysTill_25 : decode cX10_staysTill 25 = .ok (.getfield 219, 3) := by decide +kernel
theorem dX10_staysTill_28 : decode cX10_staysTill 28 = .ok (.iconst (-1), 1) := by decide +kernel
theorem dX10_staysTill_29 : decode cX10_staysTill 29 = .ok (.if_icmp .ne 48, 3) := by decide +kernel
theorem dX10_staysTill_32 : decode cX10_staysTill 32 = .ok (.aload_n 0, 1) := by decide +kernel
theorem dX10_staysTill_33 : decode cX10_staysTill 33 = .ok (.getfield 45, 3) := by decide +kernel
theorem dX10_staysTill_36 : decode cX10_staysTill 36 = .ok (.aload_n 0, 1) := by decide +kernel
theorem dX10_staysTill_37 : decode cX10_staysTill 37 = .ok (.getfield 12, 3) := by decide +kernel
theorem dX10_staysTill_40 : decode cX10_staysTill 40 = .ok (.iload_n 2, 1) := by decide +kernel
theorem dX10_staysTill_41 : decode cX10_staysTill 41 = .ok (.invokevirtual 168, 3) := by decide +kernel
theorem dX10_staysTill_44 : decode cX10_staysTill 44 = .ok (.iload_n 2, 1) := by decide +kernel
theorem dX10_staysTill_45 : decode cX10_staysTill 45 = .ok (.bipush 24, 2) := by decide +kernel
theorem dX10_staysTill_47 : decode cX10_staysTill 47 = .ok (.irem, 1) := by decide +kernel
theorem dX10_staysTill_48 : decode cX10_staysTill 48 = .ok (.invokevirtual 171, 3) := by decide +kernel
theorem dX10_staysTill_51 : decode cX10_staysTill 51 = .ok (.aload_n 0, 1) := by decide +kernel
theorem dX10_staysTill_52 : decode cX10_staysTill 52 = .ok (.getfield 32, 3) := by decide +kernel
theorem dX10_staysTill_55 : decode cX10_staysTill 55 = .ok (.aload_n 0, 1) := by decide +kernel
theorem dX10_staysTill_56 : decode cX10_staysTill 56 = .ok (.getfield 45, 3) := by decide +kernel
theorem dX10_staysTill_59 : decode cX10_staysTill 59 = .ok (.aload_n 0, 1) := by decide +kernel
theorem dX10_staysTill_60 : decode cX10_staysTill 60 = .ok (.getfield 12, 3) := by decide +kernel
theorem dX10_staysTill_63 : decode cX10_staysTill 63 = .ok (.iload_n 2, 1) := by decide +kernel
theorem dX10_staysTill_64 : decode cX10_staysTill 64 = .ok (.invokevirtual 183, 3) := by decide +kernel
theorem dX10_staysTill_67 : decode cX10_staysTill 67 = .ok (.iload_n 2, 1) := by decide +kernel
theorem dX10_staysTill_68 : decode cX10_staysTill 68 = .ok (.invokevirtual 186, 3) := by decide +kernel
theorem dX10_staysTill_71 : decode cX10_staysTill 71 = .ok (.iinc 2 1, 3) := by decide +kernel
theorem dX10_staysTill_74 : decode cX10_staysTill 74 = .ok (.goto (-58), 3) := by decide +kernel
theorem dX10_staysTill_77 : decode cX10_staysTill 77 = .ok (.aload_n 0, 1) := by decide +kernel
theorem dX10_staysTill_78 : decode cX10_staysTill 78 = .ok (.getfield 32, 3) := by decide +kernel
theorem dX10_staysTill_81 : decode cX10_staysTill 81 = .ok (.getfield 219, 3) := by decide +kernel
theorem dX10_staysTill_84 : decode cX10_staysTill 84 = .ok (.iconst (-1), 1) := by decide +kernel
theorem dX10_staysTill_85 : decode cX10_staysTill 85 = .ok (.if_icmp .ne 7, 3) := by decide +kernel
theorem dX10_staysTill_88 : decode cX10_staysTill 88 = .ok (.iconst 1, 1) := by decide +kernel
theorem dX10_staysTill_89 : decode cX10_staysTill 89 = .ok (.goto 4, 3) := by decide +kernel
theorem dX10_staysTill_92 : decode cX10_staysTill 92 = .ok (.iconst 0, 1) := by decide +kernel
theorem dX10_staysTill_93 : decode cX10_staysTill 93 = .ok (.ireturn, 1) := by decide +kernel
