theorem dX5_flowOver_43 : decode cX5_flowOver 43 = .ok (.invokevirtual 115, 3) := by decide +kernel
theorem dX5_flowOver_46 : decode cX5_flowOver 46 = .ok (.iload_n 3, 1) := by decide +kernel
theorem dX5_flowOver_47 : decode cX5_flowOver 47 = .ok (.if_icmp .gt 17, 3) := by decide +kernel
theorem dX5_flowOver_50 : decode cX5_flowOver 50 = .ok (.aload_n 0, 1) := by decide +kernel
theorem dX5_flowOver_51 : decode cX5_flowOver 51 = .ok (.getfield 14, 3) := by decide +kernel
theorem dX5_flowOver_54 : decode cX5_flowOver 54 = .ok (.iload_n 1, 1) := by decide +kernel
theorem dX5_flowOver_55 : decode cX5_flowOver 55 = .ok (.aload_n 0, 1) := by decide +kernel
theorem dX5_flowOver_56 : decode cX5_flowOver 56 = .ok (.getfield 14, 3) := by decide +kernel
theorem dX5_flowOver_59 : decode cX5_flowOver 59 = .ok (.iload_n 2, 1) := by decide +kernel
theorem dX5_flowOver_60 : decode cX5_flowOver 60 = .ok (.invokevirtual 122, 3) := by decide +kernel
theorem dX5_flowOver_63 : decode cX5_flowOver 63 = .ok (.pop, 1) := by decide +kernel
theorem dX5_flowOver_64 : decode cX5_flowOver 64 = .ok (.return_, 1) := by decide +kernel
theorem dX8_lawOf_0 : decode cX8_lawOf 0 = .ok (.aload_n 0, 1) := by decide +kernel
theorem dX8_lawOf_1 : decode cX8_lawOf 1 = .ok (.getfield 15, 3) := by decide +kernel
theorem dX8_lawOf_4 : decode cX8_lawOf 4 = .ok (.iconst 1, 1) := by decide +kernel
theorem dX8_lawOf_5 : decode cX8_lawOf 5 = .ok (.if_icmp .lt 12, 3) := by decide +kernel
theorem dX8_lawOf_8 : decode cX8_lawOf 8 = .ok (.aload_n 0, 1) := by decide +kernel
theorem dX8_lawOf_9 : decode cX8_lawOf 9 = .ok (.getfield 28, 3) := by decide +kernel
theorem dX8_lawOf_12 : decode cX8_lawOf 12 = .ok (.iload_n 3, 1) := by decide +kernel
theorem dX8_lawOf_13 : decode cX8_lawOf 13 = .ok (.iaload, 1) := by decide +kernel
theorem dX8_lawOf_14 : decode cX8_lawOf 14 = .ok (.ifCond .ne 5, 3) := by decide +kernel
theorem dX8_lawOf_17 : decode cX8_lawOf 17 = .ok (.iconst 0, 1) := by decide +kernel
theorem dX8_lawOf_18 : decode cX8_lawOf 18 = .ok (.ireturn, 1) := by decide +kernel
theorem dX8_lawOf_19 : decode cX8_lawOf 19 = .ok (.iload_n 3, 1) := by decide +kernel
theorem dX8_lawOf_20 : decode cX8_lawOf 20 = .ok (.aload_n 0, 1) := by decide +kernel
theorem dX8_lawOf_21 : decode cX8_lawOf 21 = .ok (.getfield 15, 3) := by decide +kernel
theorem dX8_lawOf_24 : decode cX8_lawOf 24 = .ok (.irem, 1) := by decide +kernel
theorem dX8_lawOf_25 : decode cX8_lawOf 25 = .ok (.istore 4, 2) := by decide +kernel
theorem dX8_lawOf_27 : decode cX8_lawOf 27 = .ok (.aload_n 1, 1) := by decide +kernel
theorem dX8_lawOf_28 : decode cX8_lawOf 28 = .ok (.aload_n 0, 1) := by decide +kernel
theorem dX8_lawOf_29 : decode cX8_lawOf 29 = .ok (.getfield 28, 3) := by decide +kernel
theorem dX8_lawOf_32 : decode cX8_lawOf 32 = .ok (.iload_n 3, 1) := by decide +kernel
theorem dX8_lawOf_33 : decode cX8_lawOf 33 = .ok (.iaload, 1) := by decide +kernel
theorem dX8_lawOf_34 : decode cX8_lawOf 34 = .ok (.aload_n 0, 1) := by decide +kernel
theorem dX8_lawOf_35 : decode cX8_lawOf 35 = .ok (.getfield 32, 3) := by decide +kernel
theorem dX8_lawOf_38 : decode cX8_lawOf 38 = .ok (.iload_n 3, 1) := by decide +kernel
theorem dX8_lawOf_39 : decode cX8_lawOf 39 = .ok (.iaload, 1) := by decide +kernel
theorem dX8_lawOf_40 : decode cX8_lawOf 40 = .ok (.iload 4, 2) := by decide +kernel
theorem dX8_lawOf_42 : decode cX8_lawOf 42 = .ok (.aload_n 0, 1) := by decide +kernel
theorem dX8_lawOf_43 : decode cX8_lawOf 43 = .ok (.getfield 35, 3) := by decide +kernel
theorem dX8_lawOf_46 : decode cX8_lawOf 46 = .ok (.iload_n 3, 1) := by decide +kernel
theorem dX8_lawOf_47 : decode cX8_lawOf 47 = .ok (.iaload, 1) := by decide +kernel
theorem dX8_lawOf_48 : decode cX8_lawOf 48 = .ok (.invokevirtual 57, 3) := by decide +kernel
theorem dX8_lawOf_51 : decode cX8_lawOf 51 = .ok (.aload_n 1, 1) := by decide +kernel
theorem dX8_lawOf_52 : decode cX8_lawOf 52 = .ok (.aload_n 0, 1) := by decide +kernel
theorem dX8_lawOf_53 : decode cX8_lawOf 53 = .ok (.getfield 18, 3) := by decide +kernel
theorem dX8_lawOf_56 : decode cX8_lawOf 56 = .ok (.ifCond .eq 23, 3) := by decide +kernel
theorem dX8_lawOf_59 : decode cX8_lawOf 59 = .ok (.aload_n 0, 1) := by decide +kernel
theorem dX8_lawOf_60 : decode cX8_lawOf 60 = .ok (.aload_n 1, 1) := by decide +kernel
theorem dX8_lawOf_61 : decode cX8_lawOf 61 = .ok (.iload_n 3, 1) := by decide +kernel
theorem dX8_lawOf_62 : decode cX8_lawOf 62 = .ok (.aload_n 0, 1) := by decide +kernel
theorem dX8_lawOf_63 : decode cX8_lawOf 63 = .ok (.getfield 15, 3) := by decide +kernel
theorem dX8_lawOf_66 : decode cX8_lawOf 66 = .ok (.idiv, 1) := by decide +kernel
theorem dX8_lawOf_67 : decode cX8_lawOf 67 = .ok (.iload 4, 2) := by decide +kernel
theorem dX8_lawOf_69 : decode cX8_lawOf 69 = .ok (.invokevirtual 63, 3) := by decide +kernel
theorem dX8_lawOf_72 : decode cX8_lawOf 72 = .ok (.ifCond .eq 7, 3) := by decide +kernel
theorem dX8_lawOf_75 : decode cX8_lawOf 75 = .ok (.iconst 1, 1) := by decide +kernel
theorem dX8_lawOf_76 : decode cX8_lawOf 76 = .ok (.goto 4, 3) := by decide +kernel
theorem dX8_lawOf_79 : decode cX8_lawOf 79 = .ok (.iconst 0, 1) := by decide +kernel
theorem dX8_lawOf_80 : decode cX8_lawOf 80 = .ok (.invokevirtual 67, 3) := by decide +kernel
theorem dX8_lawOf_83 : decode cX8_lawOf 83 = .ok (.aload_n 1, 1) := by decide +kernel
theorem dX8_lawOf_84 : decode cX8_lawOf 84 = .ok (.iload_n 2, 1) := by decide +kernel
theorem dX8_lawOf_85 : decode cX8_lawOf 85 = .ok (.invokevirtual 71, 3) := by decide +kernel
theorem dX8_lawOf_88 : decode cX8_lawOf 88 = .ok (.ireturn, 1) := by decide +kernel
theorem dX8_rainAndDry_0 : decode cX8_rainAndDry 0 = .ok (.iconst 0, 1) := by decide +kernel
theorem dX8_rainAndDry_1 : decode cX8_rainAndDry 1 = .ok (.istore_n 3, 1) := by decide +kernel
theorem dX8_rainAndDry_2 : decode cX8_rainAndDry 2 = .ok (.iload_n 3, 1) := by decide +kernel
theorem dX8_rainAndDry_3 : decode cX8_rainAndDry 3 = .ok (.aload_n 0, 1) := by decide +kernel
theorem dX8_rainAndDry_4 : decode cX8_rainAndDry 4 = .ok (.getfield 9, 3) := by decide +kernel
theorem dX8_rainAndDry_7 : decode cX8_rainAndDry 7 = .ok (.if_icmp .ge 69, 3) := by decide +kernel
theorem dX8_rainAndDry_10 : decode cX8_rainAndDry 10 = .ok (.aload_n 0, 1) := by decide +kernel
theorem dX8_rainAndDry_11 : decode cX8_rainAndDry 11 = .ok (.iload_n 3, 1) := by decide +kernel
theorem dX8_rainAndDry_12 : decode cX8_rainAndDry 12 = .ok (.invokevirtual 79, 3) := by decide +kernel
theorem dX8_rainAndDry_15 : decode cX8_rainAndDry 15 = .ok (.istore 4, 2) := by decide +kernel
theorem dX8_rainAndDry_17 : decode cX8_rainAndDry 17 = .ok (.iload 4, 2) := by decide +kernel
theorem dX8_rainAndDry_19 : decode cX8_rainAndDry 19 = .ok (.ifCond .le 51, 3) := by decide +kernel
theorem dX8_rainAndDry_22 : decode cX8_rainAndDry 22 = .ok (.iload_n 3, 1) := by decide +kernel
theorem dX8_rainAndDry_23 : decode cX8_rainAndDry 23 = .ok (.aload_n 0, 1) := by decide +kernel
theorem dX8_rainAndDry_24 : decode cX8_rainAndDry 24 = .ok (.getfield 15, 3) := by decide +kernel
theorem dX8_rainAndDry_27 : decode cX8_rainAndDry 27 = .ok (.imul, 1) := by decide +kernel
theorem dX8_rainAndDry_28 : decode cX8_rainAndDry 28 = .ok (.iload 4, 2) := by decide +kernel
theorem dX8_rainAndDry_30 : decode cX8_rainAndDry 30 = .ok (.iadd, 1) := by decide +kernel
theorem dX8_rainAndDry_31 : decode cX8_rainAndDry 31 = .ok (.iconst 1, 1) := by decide +kernel
theorem dX8_rainAndDry_32 : decode cX8_rainAndDry 32 = .ok (.isub, 1) := by decide +kernel
theorem dX8_rainAndDry_33 : decode cX8_rainAndDry 33 = .ok (.istore 5, 2) := by decide +kernel
theorem dX8_rainAndDry_35 : decode cX8_rainAndDry 35 = .ok (.aload_n 0, 1) := by decide +kernel
theorem dX8_rainAndDry_36 : decode cX8_rainAndDry 36 = .ok (.iload 5, 2) := by decide +kernel
theorem dX8_rainAndDry_38 : decode cX8_rainAndDry 38 = .ok (.iload_n 2, 1) := by decide +kernel
theorem dX8_rainAndDry_39 : decode cX8_rainAndDry 39 = .ok (.invokevirtual 82, 3) := by decide +kernel
theorem dX8_rainAndDry_42 : decode cX8_rainAndDry 42 = .ok (.aload_n 0, 1) := by decide +kernel
theorem dX8_rainAndDry_43 : decode cX8_rainAndDry 43 = .ok (.getfield 32, 3) := by decide +kernel
theorem dX8_rainAndDry_46 : decode cX8_rainAndDry 46 = .ok (.iload 5, 2) := by decide +kernel
theorem dX8_rainAndDry_48 : decode cX8_rainAndDry 48 = .ok (.dup2, 1) := by decide +kernel
theorem dX8_rainAndDry_49 : decode cX8_rainAndDry 49 = .ok (.iaload, 1) := by decide +kernel
theorem dX8_rainAndDry_50 : decode cX8_rainAndDry 50 = .ok (.aload_n 0, 1) := by decide +kernel
theorem dX8_rainAndDry_51 : decode cX8_rainAndDry 51 = .ok (.aload_n 1, 1) := by decide +kernel
theorem dX8_rainAndDry_52 : decode cX8_rainAndDry 52 = .ok (.iconst 1, 1) := by decide +kernel
theorem dX8_rainAndDry_53 : decode cX8_rainAndDry 53 = .ok (.iload 5, 2) := by decide +kernel
theorem dX8_rainAndDry_55 : decode cX8_rainAndDry 55 = .ok (.invokevirtual 86, 3) := by decide +kernel
theorem dX8_rainAndDry_58 : decode cX8_rainAndDry 58 = .ok (.aload_n 0, 1) := by decide +kernel
theorem dX8_rainAndDry_59 : decode cX8_rainAndDry 59 = .ok (.getfield 32, 3) := by decide +kernel
theorem dX8_rainAndDry_62 : decode cX8_rainAndDry 62 = .ok (.iload 5, 2) := by decide +kernel
theorem dX8_rainAndDry_64 : decode cX8_rainAndDry 64 = .ok (.iaload, 1) := by decide +kernel
theorem dX8_rainAndDry_65 : decode cX8_rainAndDry 65 = .ok (.invokestatic 90, 3) := by decide +kernel
theorem dX8_rainAndDry_68 : decode cX8_rainAndDry 68 = .ok (.isub, 1) := by decide +kernel
theorem dX8_rainAndDry_69 : decode cX8_rainAndDry 69 = .ok (.iastore, 1) := by decide +kernel
theorem dX8_rainAndDry_70 : decode cX8_rainAndDry 70 = .ok (.iinc 3 1, 3) := by decide +kernel
theorem dX8_rainAndDry_73 : decode cX8_rainAndDry 73 = .ok (.goto (-71), 3) := by decide +kernel
theorem dX8_rainAndDry_76 : decode cX8_rainAndDry 76 = .ok (.return_, 1) := by decide +kernel
theorem dX8_sinkWater_0 : decode cX8_sinkWater 0 = .ok (.iconst 0, 1) := by decide +kernel
theorem dX8_sinkWater_1 : decode cX8_sinkWater 1 = .ok (.istore_n 2, 1) := by decide +kernel
theorem dX8_sinkWater_2 : decode cX8_sinkWater 2 = .ok (.iload_n 2, 1) := by decide +kernel
theorem dX8_sinkWater_3 : decode cX8_sinkWater 3 = .ok (.aload_n 0, 1) := by decide +kernel
theorem dX8_sinkWater_4 : decode cX8_sinkWater 4 = .ok (.getfield 9, 3) := by decide +kernel
theorem dX8_sinkWater_7 : decode cX8_sinkWater 7 = .ok (.if_icmp .ge 102, 3) := by decide +kernel
theorem dX8_sinkWater_10 : decode cX8_sinkWater 10 = .ok (.aload_n 0, 1) := by decide +kernel
theorem dX8_sinkWater_11 : decode cX8_sinkWater 11 = .ok (.iload_n 2, 1) := by decide +kernel
theorem dX8_sinkWater_12 : decode cX8_sinkWater 12 = .ok (.invokevirtual 79, 3) := by decide +kernel
theorem dX8_sinkWater_15 : decode cX8_sinkWater 15 = .ok (.istore_n 3, 1) := by decide +kernel
theorem dX8_sinkWater_16 : decode cX8_sinkWater 16 = .ok (.iconst 0, 1) := by decide +kernel
theorem dX8_sinkWater_17 : decode cX8_sinkWater 17 = .ok (.istore 4, 2) := by decide +kernel
theorem dX8_sinkWater_19 : decode cX8_sinkWater 19 = .ok (.iload 4, 2) := by decide +kernel
theorem dX8_sinkWater_21 : decode cX8_sinkWater 21 = .ok (.iload_n 3, 1) := by decide +kernel
theorem dX8_sinkWater_22 : decode cX8_sinkWater 22 = .ok (.if_icmp .ge 81, 3) := by decide +kernel
theorem dX8_sinkWater_25 : decode cX8_sinkWater 25 = .ok (.iload_n 2, 1) := by decide +kernel
theorem dX8_sinkWater_26 : decode cX8_sinkWater 26 = .ok (.aload_n 0, 1) := by decide +kernel
theorem dX8_sinkWater_27 : decode cX8_sinkWater 27 = .ok (.getfield 15, 3) := by decide +kernel
theorem dX8_sinkWater_30 : decode cX8_sinkWater 30 = .ok (.imul, 1) := by decide +kernel
theorem dX8_sinkWater_31 : decode cX8_sinkWater 31 = .ok (.iload 4, 2) := by decide +kernel
theorem dX8_sinkWater_33 : decode cX8_sinkWater 33 = .ok (.iadd, 1) := by decide +kernel
theorem dX8_sinkWater_34 : decode cX8_sinkWater 34 = .ok (.istore 5, 2) := by decide +kernel
theorem dX8_sinkWater_36 : decode cX8_sinkWater 36 = .ok (.aload_n 0, 1) := by decide +kernel
theorem dX8_sinkWater_37 : decode cX8_sinkWater 37 = .ok (.aload_n 1, 1) := by decide +kernel
theorem dX8_sinkWater_38 : decode cX8_sinkWater 38 = .ok (.iconst 0, 1) := by decide +kernel
theorem dX8_sinkWater_39 : decode cX8_sinkWater 39 = .ok (.iload 5, 2) := by decide +kernel
theorem dX8_sinkWater_41 : decode cX8_sinkWater 41 = .ok (.invokevirtual 86, 3) := by decide +kernel
theorem dX8_sinkWater_44 : decode cX8_sinkWater 44 = .ok (.aload_n 0, 1) := by decide +kernel
theorem dX8_sinkWater_45 : decode cX8_sinkWater 45 = .ok (.getfield 32, 3) := by decide +kernel
theorem dX8_sinkWater_48 : decode cX8_sinkWater 48 = .ok (.iload 5, 2) := by decide +kernel
theorem dX8_sinkWater_50 : decode cX8_sinkWater 50 = .ok (.iaload, 1) := by decide +kernel
theorem dX8_sinkWater_51 : decode cX8_sinkWater 51 = .ok (.invokestatic 90, 3) := by decide +kernel
theorem dX8_sinkWater_54 : decode cX8_sinkWater 54 = .ok (.istore 6, 2) := by decide +kernel
theorem dX8_sinkWater_56 : decode cX8_sinkWater 56 = .ok (.aload_n 0, 1) := by decide +kernel
theorem dX8_sinkWater_57 : decode cX8_sinkWater 57 = .ok (.getfield 32, 3) := by decide +kernel
theorem dX8_sinkWater_60 : decode cX8_sinkWater 60 = .ok (.iload 5, 2) := by decide +kernel
theorem dX8_sinkWater_62 : decode cX8_sinkWater 62 = .ok (.dup2, 1) := by decide +kernel
theorem dX8_sinkWater_63 : decode cX8_sinkWater 63 = .ok (.iaload, 1) := by decide +kernel
theorem dX8_sinkWater_64 : decode cX8_sinkWater 64 = .ok (.iload 6, 2) := by decide +kernel
theorem dX8_sinkWater_66 : decode cX8_sinkWater 66 = .ok (.isub, 1) := by decide +kernel
theorem dX8_sinkWater_67 : decode cX8_sinkWater 67 = .ok (.iastore, 1) := by decide +kernel
theorem dX8_sinkWater_68 : decode cX8_sinkWater 68 = .ok (.iload 4, 2) := by decide +kernel
theorem dX8_sinkWater_70 : decode cX8_sinkWater 70 = .ok (.ifCond .ne 17, 3) := by decide +kernel
theorem dX8_sinkWater_73 : decode cX8_sinkWater 73 = .ok (.aload_n 0, 1) := by decide +kernel
theorem dX8_sinkWater_74 : decode cX8_sinkWater 74 = .ok (.dup, 1) := by decide +kernel
theorem dX8_sinkWater_75 : decode cX8_sinkWater 75 = .ok (.getfield 50, 3) := by decide +kernel
theorem dX8_sinkWater_78 : decode cX8_sinkWater 78 = .ok (.iload 6, 2) := by decide +kernel
theorem dX8_sinkWater_80 : decode cX8_sinkWater 80 = .ok (.iadd, 1) := by decide +kernel
theorem dX8_sinkWater_81 : decode cX8_sinkWater 81 = .ok (.putfield 50, 3) := by decide +kernel
theorem dX8_sinkWater_84 : decode cX8_sinkWater 84 = .ok (.goto 13, 3) := by decide +kernel
theorem dX8_sinkWater_87 : decode cX8_sinkWater 87 = .ok (.aload_n 0, 1) := by decide +kernel
theorem dX8_sinkWater_88 : decode cX8_sinkWater 88 = .ok (.iload 5, 2) := by decide +kernel
theorem dX8_sinkWater_90 : decode cX8_sinkWater 90 = .ok (.iconst 1, 1) := by decide +kernel
theorem dX8_sinkWater_91 : decode cX8_sinkWater 91 = .ok (.isub, 1) := by decide +kernel
theorem dX8_sinkWater_92 : decode cX8_sinkWater 92 = .ok (.iload 6, 2) := by decide +kernel
theorem dX8_sinkWater_94 : decode cX8_sinkWater 94 = .ok (.invokevirtual 82, 3) := by decide +kernel
theorem dX8_sinkWater_97 : decode cX8_sinkWater 97 = .ok (.iinc 4 1, 3) := by decide +kernel
theorem dX8_sinkWater_100 : decode cX8_sinkWater 100 = .ok (.goto (-81), 3) := by decide +kernel
theorem dX8_sinkWater_103 : decode cX8_sinkWater 103 = .ok (.iinc 2 1, 3) := by decide +kernel
theorem dX8_sinkWater_106 : decode cX8_sinkWater 106 = .ok (.goto (-104), 3) := by decide +kernel
theorem dX8_sinkWater_109 : decode cX8_sinkWater 109 = .ok (.return_, 1) := by decide +kernel
theorem dX8_turnToSoup_0 : decode cX8_turnToSoup 0 = .ok (.iconst 0, 1) := by decide +kernel
theorem dX8_turnToSoup_1 : decode cX8_turnToSoup 1 = .ok (.istore_n 2, 1) := by decide +kernel
theorem dX8_turnToSoup_2 : decode cX8_turnToSoup 2 = .ok (.iload_n 2, 1) := by decide +kernel
theorem dX8_turnToSoup_3 : decode cX8_turnToSoup 3 = .ok (.aload_n 0, 1) := by decide +kernel
theorem dX8_turnToSoup_4 : decode cX8_turnToSoup 4 = .ok (.getfield 28, 3) := by decide +kernel
theorem dX8_turnToSoup_7 : decode cX8_turnToSoup 7 = .ok (.arraylength, 1) := by decide +kernel
theorem dX8_turnToSoup_8 : decode cX8_turnToSoup 8 = .ok (.if_icmp .ge 30, 3) := by decide +kernel
theorem dX8_turnToSoup_11 : decode cX8_turnToSoup 11 = .ok (.aload_n 0, 1) := by decide +kernel
theorem dX8_turnToSoup_12 : decode cX8_turnToSoup 12 = .ok (.getfield 38, 3) := by decide +kernel
theorem dX8_turnToSoup_15 : decode cX8_turnToSoup 15 = .ok (.iload_n 2, 1) := by decide +kernel
theorem dX8_turnToSoup_16 : decode cX8_turnToSoup 16 = .ok (.aload_n 0, 1) := by decide +kernel
theorem dX8_turnToSoup_17 : decode cX8_turnToSoup 17 = .ok (.aload_n 1, 1) := by decide +kernel
theorem dX8_turnToSoup_18 : decode cX8_turnToSoup 18 = .ok (.iconst 2, 1) := by decide +kernel
theorem dX8_turnToSoup_19 : decode cX8_turnToSoup 19 = .ok (.iload_n 2, 1) := by decide +kernel
theorem dX8_turnToSoup_20 : decode cX8_turnToSoup 20 = .ok (.invokevirtual 86, 3) := by decide +kernel
theorem dX8_turnToSoup_23 : decode cX8_turnToSoup 23 = .ok (.ifCond .le 7, 3) := by decide +kernel
theorem dX8_turnToSoup_26 : decode cX8_turnToSoup 26 = .ok (.iconst 1, 1) := by decide +kernel
theorem dX8_turnToSoup_27 : decode cX8_turnToSoup 27 = .ok (.goto 4, 3) := by decide +kernel
theorem dX8_turnToSoup_30 : decode cX8_turnToSoup 30 = .ok (.iconst 0, 1) := by decide +kernel
theorem dX8_turnToSoup_31 : decode cX8_turnToSoup 31 = .ok (.iastore, 1) := by decide +kernel
theorem dX8_turnToSoup_32 : decode cX8_turnToSoup 32 = .ok (.iinc 2 1, 3) := by decide +kernel
theorem dX8_turnToSoup_35 : decode cX8_turnToSoup 35 = .ok (.goto (-33), 3) := by decide +kernel
theorem dX8_turnToSoup_38 : decode cX8_turnToSoup 38 = .ok (.return_, 1) := by decide +kernel
theorem dX10_told_0 : decode cX10_told 0 = .ok (.aload_n 0, 1) := by decide +kernel
theorem dX10_told_1 : decode cX10_told 1 = .ok (.iload_n 2, 1) := by decide +kernel
theorem dX10_told_2 : decode cX10_told 2 = .ok (.invokevirtual 110, 3) := by decide +kernel
theorem dX10_told_5 : decode cX10_told 5 = .ok (.astore 6, 2) := by decide +kernel
theorem dX10_told_7 : decode cX10_told 7 = .ok (.iload_n 2, 1) := by decide +kernel
theorem dX10_told_8 : decode cX10_told 8 = .ok (.iload_n 3, 1) := by decide +kernel
theorem dX10_told_9 : decode cX10_told 9 = .ok (.iload 4, 2) := by decide +kernel
theorem dX10_told_11 : decode cX10_told 11 = .ok (.iload 5, 2) := by decide +kernel
theorem dX10_told_13 : decode cX10_told 13 = .ok (.invokestatic 114, 3) := by decide +kernel
theorem dX10_told_16 : decode cX10_told 16 = .ok (.istore 7, 2) := by decide +kernel
theorem dX10_told_18 : decode cX10_told 18 = .ok (.iload 7, 2) := by decide +kernel
theorem dX10_told_20 : decode cX10_told 20 = .ok (.iconst (-1), 1) := by decide +kernel
theorem dX10_told_21 : decode cX10_told 21 = .ok (.if_icmp .eq 11, 3) := by decide +kernel
theorem dX10_told_24 : decode cX10_told 24 = .ok (.iload_n 1, 1) := by decide +kernel
theorem dX10_told_25 : decode cX10_told 25 = .ok (.iconst 4, 1) := by decide +kernel
theorem dX10_told_26 : decode cX10_told 26 = .ok (.invokestatic 85, 3) := by decide +kernel
theorem dX10_told_29 : decode cX10_told 29 = .ok (.ifCond .ne 6, 3) := by decide +kernel
theorem dX10_told_32 : decode cX10_told 32 = .ok (.ldc 231, 2) := by decide +kernel
theorem dX10_told_34 : decode cX10_told 34 = .ok (.ireturn, 1) := by decide +kernel
theorem dX10_told_35 : decode cX10_told 35 = .ok (.aload_n 0, 1) := by decide +kernel
theorem dX10_told_36 : decode cX10_told 36 = .ok (.getfield 45, 3) := by decide +kernel
theorem dX10_told_39 : decode cX10_told 39 = .ok (.aload_n 0, 1) := by decide +kernel
theorem dX10_told_40 : decode cX10_told 40 = .ok (.getfield 12, 3) := by decide +kernel
theorem dX10_told_43 : decode cX10_told 43 = .ok (.aload_n 0, 1) := by decide +kernel
theorem dX10_told_44 : decode cX10_told 44 = .ok (.getfield 165, 3) := by decide +kernel
theorem dX10_told_47 : decode cX10_told 47 = .ok (.invokevirtual 168, 3) := by decide +kernel
theorem dX10_told_50 : decode cX10_told 50 = .ok (.aload_n 0, 1) := by decide +kernel
theorem dX10_told_51 : decode cX10_told 51 = .ok (.getfield 165, 3) := by decide +kernel
theorem dX10_told_54 : decode cX10_told 54 = .ok (.bipush 24, 2) := by decide +kernel
theorem dX10_told_56 : decode cX10_told 56 = .ok (.irem, 1) := by decide +kernel
theorem dX10_told_57 : decode cX10_told 57 = .ok (.invokevirtual 171, 3) := by decide +kernel
theorem dX10_told_60 : decode cX10_told 60 = .ok (.aload 6, 2) := by decide +kernel
theorem dX10_told_62 : decode cX10_told 62 = .ok (.aload_n 0, 1) := by decide +kernel
theorem dX10_told_63 : decode cX10_told 63 = .ok (.getfield 45, 3) := by decide +kernel
theorem dX10_told_66 : decode cX10_told 66 = .ok (.iload_n 1, 1) := by decide +kernel
theorem dX10_told_67 : decode cX10_told 67 = .ok (.iload 7, 2) := by decide +kernel
theorem dX10_told_69 : decode cX10_told 69 = .ok (.invokevirtual 235, 3) := by decide +kernel
theorem dX10_told_72 : decode cX10_told 72 = .ok (.ireturn, 1) := by decide +kernel
theorem dX10_fair_0 : decode cX10_fair 0 = .ok (.iload_n 1, 1) := by decide +kernel
theorem dX10_fair_1 : decode cX10_fair 1 = .ok (.bipush 21, 2) := by decide +kernel
theorem dX10_fair_3 : decode cX10_fair 3 = .ok (.invokestatic 85, 3) := by decide +kernel
theorem dX10_fair_6 : decode cX10_fair 6 = .ok (.ifCond .eq 18, 3) := by decide +kernel
theorem dX10_fair_9 : decode cX10_fair 9 = .ok (.aload_n 0, 1) := by decide +kernel
theorem dX10_fair_10 : decode cX10_fair 10 = .ok (.getfield 66, 3) := by decide +kernel
theorem dX10_fair_13 : decode cX10_fair 13 = .ok (.aload_n 0, 1) := by decide +kernel
theorem dX10_fair_14 : decode cX10_fair 14 = .ok (.getfield 21, 3) := by decide +kernel
theorem dX10_fair_17 : decode cX10_fair 17 = .ok (.iload_n 1, 1) := by decide +kernel
theorem dX10_fair_18 : decode cX10_fair 18 = .ok (.invokevirtual 264, 3) := by decide +kernel
theorem dX10_fair_21 : decode cX10_fair 21 = .ok (.goto 4, 3) := by decide +kernel
theorem dX10_fair_24 : decode cX10_fair 24 = .ok (.iconst (-1), 1) := by decide +kernel
theorem dX10_fair_25 : decode cX10_fair 25 = .ok (.ireturn, 1) := by decide +kernel
theorem dX10_may_0 : decode cX10_may 0 = .ok (.iload_n 1, 1) := by decide +kernel
theorem dX10_may_1 : decode cX10_may 1 = .ok (.iconst 4, 1) := by decide +kernel
theorem dX10_may_2 : decode cX10_may 2 = .ok (.invokestatic 85, 3) := by decide +kernel
theorem dX10_may_5 : decode cX10_may 5 = .ok (.ifCond .eq 11, 3) := by decide +kernel
theorem dX10_may_8 : decode cX10_may 8 = .ok (.iload_n 2, 1) := by decide +kernel
theorem dX10_may_9 : decode cX10_may 9 = .ok (.iconst 3, 1) := by decide +kernel
theorem dX10_may_10 : decode cX10_may 10 = .ok (.invokestatic 85, 3) := by decide +kernel
theorem dX10_may_13 : decode cX10_may 13 = .ok (.ifCond .ne 5, 3) := by decide +kernel
theorem dX10_may_16 : decode cX10_may 16 = .ok (.iconst (-1), 1) := by decide +kernel
theorem dX10_may_17 : decode cX10_may 17 = .ok (.ireturn, 1) := by decide +kernel
theorem dX10_may_18 : decode cX10_may 18 = .ok (.aload_n 0, 1) := by decide +kernel
theorem dX10_may_19 : decode cX10_may 19 = .ok (.getfield 52, 3) := by decide +kernel
theorem dX10_may_22 : decode cX10_may 22 = .ok (.aload_n 0, 1) := by decide +kernel
theorem dX10_may_23 : decode cX10_may 23 = .ok (.getfield 81, 3) := by decide +kernel
theorem dX10_may_26 : decode cX10_may 26 = .ok (.iconst (-1), 1) := by decide +kernel
theorem dX10_may_27 : decode cX10_may 27 = .ok (.if_icmp .ne 7, 3) := by decide +kernel
theorem dX10_may_30 : decode cX10_may 30 = .ok (.iconst 0, 1) := by decide +kernel
theorem dX10_may_31 : decode cX10_may 31 = .ok (.goto 7, 3) := by decide +kernel
theorem dX10_may_34 : decode cX10_may 34 = .ok (.aload_n 0, 1) := by decide +kernel
theorem dX10_may_35 : decode cX10_may 35 = .ok (.getfield 81, 3) := by decide +kernel
theorem dX10_may_38 : decode cX10_may 38 = .ok (.aload_n 0, 1) := by decide +kernel
theorem dX10_may_39 : decode cX10_may 39 = .ok (.getfield 59, 3) := by decide +kernel
theorem dX10_may_42 : decode cX10_may 42 = .ok (.invokevirtual 268, 3) := by decide +kernel
theorem dX10_may_45 : decode cX10_may 45 = .ok (.aload_n 0, 1) := by decide +kernel
theorem dX10_may_46 : decode cX10_may 46 = .ok (.getfield 59, 3) := by decide +kernel
theorem dX10_may_49 : decode cX10_may 49 = .ok (.aload_n 0, 1) := by decide +kernel
theorem dX10_may_50 : decode cX10_may 50 = .ok (.getfield 165, 3) := by decide +kernel
theorem dX10_may_53 : decode cX10_may 53 = .ok (.invokevirtual 271, 3) := by decide +kernel
theorem dX10_may_56 : decode cX10_may 56 = .ok (.aload_n 0, 1) := by decide +kernel
theorem dX10_may_57 : decode cX10_may 57 = .ok (.getfield 12, 3) := by decide +kernel
theorem dX10_may_60 : decode cX10_may 60 = .ok (.aload_n 0, 1) := by decide +kernel
theorem dX10_may_61 : decode cX10_may 61 = .ok (.getfield 165, 3) := by decide +kernel
theorem dX10_may_64 : decode cX10_may 64 = .ok (.invokevirtual 168, 3) := by decide +kernel
theorem dX10_may_67 : decode cX10_may 67 = .ok (.invokevirtual 274, 3) := by decide +kernel
theorem dX10_may_70 : decode cX10_may 70 = .ok (.aload_n 0, 1) := by decide +kernel
theorem dX10_may_71 : decode cX10_may 71 = .ok (.getfield 52, 3) := by decide +kernel
theorem dX10_may_74 : decode cX10_may 74 = .ok (.aload_n 0, 1) := by decide +kernel
theorem dX10_may_75 : decode cX10_may 75 = .ok (.getfield 165, 3) := by decide +kernel
theorem dX10_may_78 : decode cX10_may 78 = .ok (.bipush 24, 2) := by decide +kernel
theorem dX10_may_80 : decode cX10_may 80 = .ok (.idiv, 1) := by decide +kernel
theorem dX10_may_81 : decode cX10_may 81 = .ok (.aload_n 0, 1) := by decide +kernel
theorem dX10_may_82 : decode cX10_may 82 = .ok (.getfield 28, 3) := by decide +kernel
theorem dX10_may_85 : decode cX10_may 85 = .ok (.getfield 196, 3) := by decide +kernel
theorem dX10_may_88 : decode cX10_may 88 = .ok (.invokevirtual 225, 3) := by decide +kernel
theorem dX10_may_91 : decode cX10_may 91 = .ok (.aload_n 0, 1) := by decide +kernel
theorem dX10_may_92 : decode cX10_may 92 = .ok (.getfield 12, 3) := by decide +kernel
theorem dX10_may_95 : decode cX10_may 95 = .ok (.aload_n 0, 1) := by decide +kernel
theorem dX10_may_96 : decode cX10_may 96 = .ok (.getfield 165, 3) := by decide +kernel
theorem dX10_may_99 : decode cX10_may 99 = .ok (.invokevirtual 183, 3) := by decide +kernel
theorem dX10_may_102 : decode cX10_may 102 = .ok (.aload_n 0, 1) := by decide +kernel
theorem dX10_may_103 : decode cX10_may 103 = .ok (.getfield 28, 3) := by decide +kernel
theorem dX10_may_106 : decode cX10_may 106 = .ok (.getfield 193, 3) := by decide +kernel
theorem dX10_may_109 : decode cX10_may 109 = .ok (.ifCond .eq 7, 3) := by decide +kernel
theorem dX10_may_112 : decode cX10_may 112 = .ok (.iconst 0, 1) := by decide +kernel
theorem dX10_may_113 : decode cX10_may 113 = .ok (.goto 4, 3) := by decide +kernel
theorem dX10_may_116 : decode cX10_may 116 = .ok (.iconst 1, 1) := by decide +kernel
theorem dX10_may_117 : decode cX10_may 117 = .ok (.invokevirtual 278, 3) := by decide +kernel
theorem dX10_may_120 : decode cX10_may 120 = .ok (.aload_n 0, 1) := by decide +kernel
theorem dX10_may_121 : decode cX10_may 121 = .ok (.getfield 52, 3) := by decide +kernel
theorem dX10_may_124 : decode cX10_may 124 = .ok (.iload_n 2, 1) := by decide +kernel
theorem dX10_may_125 : decode cX10_may 125 = .ok (.iload_n 1, 1) := by decide +kernel
theorem dX10_may_126 : decode cX10_may 126 = .ok (.invokevirtual 281, 3) := by decide +kernel
theorem dX10_may_129 : decode cX10_may 129 = .ok (.ifCond .eq 7, 3) := by decide +kernel
theorem dX10_may_132 : decode cX10_may 132 = .ok (.iconst 1, 1) := by decide +kernel
theorem dX10_may_133 : decode cX10_may 133 = .ok (.goto 4, 3) := by decide +kernel
theorem dX10_may_136 : decode cX10_may 136 = .ok (.iconst 0, 1) := by decide +kernel
theorem dX10_may_137 : decode cX10_may 137 = .ok (.ireturn, 1) := by decide +kernel
theorem dX1_findWays_0 : decode cX1_findWays 0 = .ok (.aload_n 0, 1) := by decide +kernel
theorem dX1_findWays_1 : decode cX1_findWays 1 = .ok (.getfield 43, 3) := by decide +kernel
theorem dX1_findWays_4 : decode cX1_findWays 4 = .ok (.ifCond .eq 4, 3) := by decide +kernel
theorem dX1_findWays_7 : decode cX1_findWays 7 = .ok (.return_, 1) := by decide +kernel
theorem dX1_findWays_8 : decode cX1_findWays 8 = .ok (.aload_n 0, 1) := by decide +kernel
theorem dX1_findWays_9 : decode cX1_findWays 9 = .ok (.iconst 1, 1) := by decide +kernel
theorem dX1_findWays_10 : decode cX1_findWays 10 = .ok (.putfield 43, 3) := by decide +kernel
theorem dX1_findWays_13 : decode cX1_findWays 13 = .ok (.aload_n 0, 1) := by decide +kernel
theorem dX1_findWays_14 : decode cX1_findWays 14 = .ok (.iconst 0, 1) := by decide +kernel
theorem dX1_findWays_15 : decode cX1_findWays 15 = .ok (.iconst 0, 1) := by decide +kernel
theorem dX1_findWays_16 : decode cX1_findWays 16 = .ok (.iconst 0, 1) := by decide +kernel
theorem dX1_findWays_17 : decode cX1_findWays 17 = .ok (.iconst 1, 1) := by decide +kernel
theorem dX1_findWays_18 : decode cX1_findWays 18 = .ok (.invokevirtual 47, 3) := by decide +kernel
theorem dX1_findWays_21 : decode cX1_findWays 21 = .ok (.iconst 0, 1) := by decide +kernel
theorem dX1_findWays_22 : decode cX1_findWays 22 = .ok (.istore_n 1, 1) := by decide +kernel
theorem dX1_findWays_23 : decode cX1_findWays 23 = .ok (.iload_n 1, 1) := by decide +kernel
theorem dX1_findWays_24 : decode cX1_findWays 24 = .ok (.bipush 21, 2) := by decide +kernel
theorem dX1_findWays_26 : decode cX1_findWays 26 = .ok (.if_icmp .ge 43, 3) := by decide +kernel
theorem dX1_findWays_29 : decode cX1_findWays 29 = .ok (.aload_n 0, 1) := by decide +kernel
theorem dX1_findWays_30 : decode cX1_findWays 30 = .ok (.getfield 18, 3) := by decide +kernel
theorem dX1_findWays_33 : decode cX1_findWays 33 = .ok (.iload_n 1, 1) := by decide +kernel
theorem dX1_findWays_34 : decode cX1_findWays 34 = .ok (.iconst 0, 1) := by decide +kernel
theorem dX1_findWays_35 : decode cX1_findWays 35 = .ok (.iastore, 1) := by decide +kernel
theorem dX1_findWays_36 : decode cX1_findWays 36 = .ok (.aload_n 0, 1) := by decide +kernel
theorem dX1_findWays_37 : decode cX1_findWays 37 = .ok (.getfield 22, 3) := by decide +kernel
theorem dX1_findWays_40 : decode cX1_findWays 40 = .ok (.iload_n 1, 1) := by decide +kernel
theorem dX1_findWays_41 : decode cX1_findWays 41 = .ok (.iconst (-1), 1) := by decide +kernel
theorem dX1_findWays_42 : decode cX1_findWays 42 = .ok (.iastore, 1) := by decide +kernel
theorem dX1_findWays_43 : decode cX1_findWays 43 = .ok (.iconst 0, 1) := by decide +kernel
theorem dX1_findWays_44 : decode cX1_findWays 44 = .ok (.istore_n 2, 1) := by decide +kernel
theorem dX1_findWays_45 : decode cX1_findWays 45 = .ok (.iload_n 2, 1) := by decide +kernel
theorem dX1_findWays_46 : decode cX1_findWays 46 = .ok (.bipush 21, 2) := by decide +kernel
theorem dX1_findWays_48 : decode cX1_findWays 48 = .ok (.if_icmp .ge 15, 3) := by decide +kernel
theorem dX1_findWays_51 : decode cX1_findWays 51 = .ok (.aload_n 0, 1) := by decide +kernel
theorem dX1_findWays_52 : decode cX1_findWays 52 = .ok (.iload_n 2, 1) := by decide +kernel
theorem dX1_findWays_53 : decode cX1_findWays 53 = .ok (.iload_n 1, 1) := by decide +kernel
theorem dX1_findWays_54 : decode cX1_findWays 54 = .ok (.invokevirtual 51, 3) := by decide +kernel
theorem dX1_findWays_57 : decode cX1_findWays 57 = .ok (.iinc 2 1, 3) := by decide +kernel
theorem dX1_findWays_60 : decode cX1_findWays 60 = .ok (.goto (-15), 3) := by decide +kernel
theorem dX1_findWays_63 : decode cX1_findWays 63 = .ok (.iinc 1 1, 3) := by decide +kernel
theorem dX1_findWays_66 : decode cX1_findWays 66 = .ok (.goto (-43), 3) := by decide +kernel
theorem dX1_findWays_69 : decode cX1_findWays 69 = .ok (.return_, 1) := by decide +kernel
theorem dX4_lawPart_0 : decode cX4_lawPart 0 = .ok (.aload_n 0, 1) := by decide +kernel
theorem dX4_lawPart_1 : decode cX4_lawPart 1 = .ok (.getfield 24, 3) := by decide +kernel
theorem dX4_lawPart_4 : decode cX4_lawPart 4 = .ok (.iload_n 1, 1) := by decide +kernel
theorem dX4_lawPart_5 : decode cX4_lawPart 5 = .ok (.iconst (-1), 1) := by decide +kernel
theorem dX4_lawPart_6 : decode cX4_lawPart 6 = .ok (.invokevirtual 129, 3) := by decide +kernel
theorem dX4_lawPart_9 : decode cX4_lawPart 9 = .ok (.aload_n 0, 1) := by decide +kernel
theorem dX4_lawPart_10 : decode cX4_lawPart 10 = .ok (.invokevirtual 133, 3) := by decide +kernel
theorem dX4_lawPart_13 : decode cX4_lawPart 13 = .ok (.ireturn, 1) := by decide +kernel
theorem dX5_flow_0 : decode cX5_flow 0 = .ok (.aload_n 0, 1) := by decide +kernel
theorem dX5_flow_1 : decode cX5_flow 1 = .ok (.getfield 48, 3) := by decide +kernel
theorem dX5_flow_4 : decode cX5_flow 4 = .ok (.ifCond .ne 4, 3) := by decide +kernel
theorem dX5_flow_7 : decode cX5_flow 7 = .ok (.return_, 1) := by decide +kernel
theorem dX5_flow_8 : decode cX5_flow 8 = .ok (.aload_n 0, 1) := by decide +kernel
theorem dX5_flow_9 : decode cX5_flow 9 = .ok (.getfield 48, 3) := by decide +kernel
theorem dX5_flow_12 : decode cX5_flow 12 = .ok (.ifCond .le 7, 3) := by decide +kernel
theorem dX5_flow_15 : decode cX5_flow 15 = .ok (.iconst 1, 1) := by decide +kernel
theorem dX5_flow_16 : decode cX5_flow 16 = .ok (.goto 4, 3) := by decide +kernel
theorem dX5_flow_19 : decode cX5_flow 19 = .ok (.iconst (-1), 1) := by decide +kernel
theorem dX5_flow_20 : decode cX5_flow 20 = .ok (.istore_n 1, 1) := by decide +kernel
theorem dX5_flow_21 : decode cX5_flow 21 = .ok (.aload_n 0, 1) := by decide +kernel
theorem dX5_flow_22 : decode cX5_flow 22 = .ok (.getfield 48, 3) := by decide +kernel
theorem dX5_flow_25 : decode cX5_flow 25 = .ok (.ifCond .le 7, 3) := by decide +kernel
theorem dX5_flow_28 : decode cX5_flow 28 = .ok (.iconst 5, 1) := by decide +kernel
theorem dX5_flow_29 : decode cX5_flow 29 = .ok (.goto 4, 3) := by decide +kernel
theorem dX5_flow_32 : decode cX5_flow 32 = .ok (.iconst 0, 1) := by decide +kernel
theorem dX5_flow_33 : decode cX5_flow 33 = .ok (.istore_n 2, 1) := by decide +kernel
theorem dX5_flow_34 : decode cX5_flow 34 = .ok (.iconst 0, 1) := by decide +kernel
theorem dX5_flow_35 : decode cX5_flow 35 = .ok (.istore_n 3, 1) := by decide +kernel
theorem dX5_flow_36 : decode cX5_flow 36 = .ok (.iload_n 3, 1) := by decide +kernel
theorem dX5_flow_37 : decode cX5_flow 37 = .ok (.iconst 4, 1) := by decide +kernel
theorem dX5_flow_38 : decode cX5_flow 38 = .ok (.if_icmp .ge 48, 3) := by decide +kernel
theorem dX5_flow_41 : decode cX5_flow 41 = .ok (.iconst 1, 1) := by decide +kernel
theorem dX5_flow_42 : decode cX5_flow 42 = .ok (.istore 4, 2) := by decide +kernel
theorem dX5_flow_44 : decode cX5_flow 44 = .ok (.iload 4, 2) := by decide +kernel
theorem dX5_flow_46 : decode cX5_flow 46 = .ok (.bipush 6, 2) := by decide +kernel
theorem dX5_flow_48 : decode cX5_flow 48 = .ok (.if_icmp .ge 32, 3) := by decide +kernel
theorem dX5_flow_51 : decode cX5_flow 51 = .ok (.iload_n 3, 1) := by decide +kernel
theorem dX5_flow_52 : decode cX5_flow 52 = .ok (.bipush 6, 2) := by decide +kernel
theorem dX5_flow_54 : decode cX5_flow 54 = .ok (.imul, 1) := by decide +kernel
theorem dX5_flow_55 : decode cX5_flow 55 = .ok (.iload_n 2, 1) := by decide +kernel
theorem dX5_flow_56 : decode cX5_flow 56 = .ok (.iadd, 1) := by decide +kernel
theorem dX5_flow_57 : decode cX5_flow 57 = .ok (.iload 4, 2) := by decide +kernel
theorem dX5_flow_59 : decode cX5_flow 59 = .ok (.iload_n 1, 1) := by decide +kernel
theorem dX5_flow_60 : decode cX5_flow 60 = .ok (.imul, 1) := by decide +kernel
theorem dX5_flow_61 : decode cX5_flow 61 = .ok (.isub, 1) := by decide +kernel
theorem dX5_flow_62 : decode cX5_flow 62 = .ok (.istore 5, 2) := by decide +kernel
theorem dX5_flow_64 : decode cX5_flow 64 = .ok (.aload_n 0, 1) := by decide +kernel
theorem dX5_flow_65 : decode cX5_flow 65 = .ok (.iload 5, 2) := by decide +kernel
theorem dX5_flow_67 : decode cX5_flow 67 = .ok (.iload 5, 2) := by decide +kernel
theorem dX5_flow_69 : decode cX5_flow 69 = .ok (.iload_n 1, 1) := by decide +kernel
theorem dX5_flow_70 : decode cX5_flow 70 = .ok (.iadd, 1) := by decide +kernel
theorem dX5_flow_71 : decode cX5_flow 71 = .ok (.invokevirtual 111, 3) := by decide +kernel
theorem dX5_flow_74 : decode cX5_flow 74 = .ok (.iinc 4 1, 3) := by decide +kernel
theorem dX5_flow_77 : decode cX5_flow 77 = .ok (.goto (-33), 3) := by decide +kernel
theorem dX5_flow_80 : decode cX5_flow 80 = .ok (.iinc 3 1, 3) := by decide +kernel
theorem dX5_flow_83 : decode cX5_flow 83 = .ok (.goto (-47), 3) := by decide +kernel
theorem dX5_flow_86 : decode cX5_flow 86 = .ok (.return_, 1) := by decide +kernel
theorem dX10_let_0 : decode cX10_let 0 = .ok (.iload_n 1, 1) := by decide +kernel
theorem dX10_let_1 : decode cX10_let 1 = .ok (.bipush 21, 2) := by decide +kernel
theorem dX10_let_3 : decode cX10_let 3 = .ok (.invokestatic 85, 3) := by decide +kernel
theorem dX10_let_6 : decode cX10_let 6 = .ok (.ifCond .eq 11, 3) := by decide +kernel
theorem dX10_let_9 : decode cX10_let 9 = .ok (.iload_n 2, 1) := by decide +kernel
theorem dX10_let_10 : decode cX10_let 10 = .ok (.iconst 2, 1) := by decide +kernel
theorem dX10_let_11 : decode cX10_let 11 = .ok (.invokestatic 85, 3) := by decide +kernel
theorem dX10_let_14 : decode cX10_let 14 = .ok (.ifCond .ne 5, 3) := by decide +kernel
theorem dX10_let_17 : decode cX10_let 17 = .ok (.iconst (-1), 1) := by decide +kernel
theorem dX10_let_18 : decode cX10_let 18 = .ok (.ireturn, 1) := by decide +kernel
theorem dX10_let_19 : decode cX10_let 19 = .ok (.aload_n 0, 1) := by decide +kernel
theorem dX10_let_20 : decode cX10_let 20 = .ok (.getfield 52, 3) := by decide +kernel
theorem dX10_let_23 : decode cX10_let 23 = .ok (.invokevirtual 284, 3) := by decide +kernel
theorem dX10_let_26 : decode cX10_let 26 = .ok (.iload_n 2, 1) := by decide +kernel
theorem dX10_let_27 : decode cX10_let 27 = .ok (.ifCond .ne 14, 3) := by decide +kernel
theorem dX10_let_30 : decode cX10_let 30 = .ok (.aload_n 0, 1) := by decide +kernel
theorem dX10_let_31 : decode cX10_let 31 = .ok (.getfield 52, 3) := by decide +kernel
theorem dX10_let_34 : decode cX10_let 34 = .ok (.iload_n 1, 1) := by decide +kernel
theorem dX10_let_35 : decode cX10_let 35 = .ok (.invokevirtual 287, 3) := by decide +kernel
theorem dX10_let_38 : decode cX10_let 38 = .ok (.goto 11, 3) := by decide +kernel
theorem dX10_let_41 : decode cX10_let 41 = .ok (.aload_n 0, 1) := by decide +kernel
theorem dX10_let_42 : decode cX10_let 42 = .ok (.getfield 52, 3) := by decide +kernel
theorem dX10_let_45 : decode cX10_let 45 = .ok (.iload_n 1, 1) := by decide +kernel
theorem dX10_let_46 : decode cX10_let 46 = .ok (.invokevirtual 290, 3) := by decide +kernel
theorem dX10_let_49 : decode cX10_let 49 = .ok (.ireturn, 1) := by decide +kernel
theorem dX5_passHour_0 : decode cX5_passHour 0 = .ok (.aload_n 0, 1) := by decide +kernel
theorem dX5_passHour_1 : decode cX5_passHour 1 = .ok (.getfield 41, 3) := by decide +kernel
theorem dX5_passHour_4 : decode cX5_passHour 4 = .ok (.ifCond .eq 11, 3) := by decide +kernel
theorem dX5_passHour_7 : decode cX5_passHour 7 = .ok (.aload_n 0, 1) := by decide +kernel
theorem dX5_passHour_8 : decode cX5_passHour 8 = .ok (.getfield 28, 3) := by decide +kernel
theorem dX5_passHour_11 : decode cX5_passHour 11 = .ok (.iconst (-1), 1) := by decide +kernel
theorem dX5_passHour_12 : decode cX5_passHour 12 = .ok (.if_icmp .eq 4, 3) := by decide +kernel
theorem dX5_passHour_15 : decode cX5_passHour 15 = .ok (.return_, 1) := by decide +kernel
theorem dX5_passHour_16 : decode cX5_passHour 16 = .ok (.aload_n 0, 1) := by decide +kernel
theorem dX5_passHour_17 : decode cX5_passHour 17 = .ok (.getfield 14, 3) := by decide +kernel
theorem dX5_passHour_20 : decode cX5_passHour 20 = .ok (.iload_n 2, 1) := by decide +kernel
theorem dX5_passHour_21 : decode cX5_passHour 21 = .ok (.invokevirtual 74, 3) := by decide +kernel
theorem dX5_passHour_24 : decode cX5_passHour 24 = .ok (.aload_n 0, 1) := by decide +kernel
theorem dX5_passHour_25 : decode cX5_passHour 25 = .ok (.getfield 14, 3) := by decide +kernel
theorem dX5_passHour_28 : decode cX5_passHour 28 = .ok (.aload_n 1, 1) := by decide +kernel
theorem dX5_passHour_29 : decode cX5_passHour 29 = .ok (.invokevirtual 78, 3) := by decide +kernel
theorem dX5_passHour_32 : decode cX5_passHour 32 = .ok (.aload_n 0, 1) := by decide +kernel
theorem dX5_passHour_33 : decode cX5_passHour 33 = .ok (.getfield 14, 3) := by decide +kernel
theorem dX5_passHour_36 : decode cX5_passHour 36 = .ok (.aload_n 1, 1) := by decide +kernel
theorem dX5_passHour_37 : decode cX5_passHour 37 = .ok (.invokevirtual 82, 3) := by decide +kernel
theorem dX5_passHour_40 : decode cX5_passHour 40 = .ok (.aload_n 0, 1) := by decide +kernel
theorem dX5_passHour_41 : decode cX5_passHour 41 = .ok (.aload_n 0, 1) := by decide +kernel
theorem dX5_passHour_42 : decode cX5_passHour 42 = .ok (.invokevirtual 85, 3) := by decide +kernel
theorem dX5_passHour_45 : decode cX5_passHour 45 = .ok (.putfield 48, 3) := by decide +kernel
theorem dX5_passHour_48 : decode cX5_passHour 48 = .ok (.aload_n 0, 1) := by decide +kernel
theorem dX5_passHour_49 : decode cX5_passHour 49 = .ok (.getfield 48, 3) := by decide +kernel
theorem dX5_passHour_52 : decode cX5_passHour 52 = .ok (.invokestatic 89, 3) := by decide +kernel
theorem dX5_passHour_55 : decode cX5_passHour 55 = .ok (.bipush 60, 2) := by decide +kernel
theorem dX5_passHour_57 : decode cX5_passHour 57 = .ok (.if_icmp .gt 23, 3) := by decide +kernel
theorem dX5_passHour_60 : decode cX5_passHour 60 = .ok (.aload_n 0, 1) := by decide +kernel
theorem dX5_passHour_61 : decode cX5_passHour 61 = .ok (.getfield 48, 3) := by decide +kernel
theorem dX5_passHour_64 : decode cX5_passHour 64 = .ok (.invokestatic 89, 3) := by decide +kernel
theorem dX5_passHour_67 : decode cX5_passHour 67 = .ok (.aload_n 0, 1) := by decide +kernel
theorem dX5_passHour_68 : decode cX5_passHour 68 = .ok (.iload_n 2, 1) := by decide +kernel
theorem dX5_passHour_69 : decode cX5_passHour 69 = .ok (.invokevirtual 92, 3) := by decide +kernel
theorem dX5_passHour_72 : decode cX5_passHour 72 = .ok (.iadd, 1) := by decide +kernel
theorem dX5_passHour_73 : decode cX5_passHour 73 = .ok (.aload_n 0, 1) := by decide +kernel
theorem dX5_passHour_74 : decode cX5_passHour 74 = .ok (.getfield 24, 3) := by decide +kernel
theorem dX5_passHour_77 : decode cX5_passHour 77 = .ok (.if_icmp .le 9, 3) := by decide +kernel
theorem dX5_passHour_80 : decode cX5_passHour 80 = .ok (.aload_n 0, 1) := by decide +kernel
theorem dX5_passHour_81 : decode cX5_passHour 81 = .ok (.iload_n 3, 1) := by decide +kernel
theorem dX5_passHour_82 : decode cX5_passHour 82 = .ok (.putfield 28, 3) := by decide +kernel
theorem dX5_passHour_85 : decode cX5_passHour 85 = .ok (.return_, 1) := by decide +kernel
theorem dX5_passHour_86 : decode cX5_passHour 86 = .ok (.aload_n 0, 1) := by decide +kernel
theorem dX5_passHour_87 : decode cX5_passHour 87 = .ok (.invokevirtual 95, 3) := by decide +kernel
theorem dX5_passHour_90 : decode cX5_passHour 90 = .ok (.return_, 1) := by decide +kernel
theorem dX10_hours_0 : decode cX10_hours 0 = .ok (.iload_n 1, 1) := by decide +kernel
theorem dX10_hours_1 : decode cX10_hours 1 = .ok (.iconst 1, 1) := by decide +kernel
theorem dX10_hours_2 : decode cX10_hours 2 = .ok (.if_icmp .lt 21, 3) := by decide +kernel
theorem dX10_hours_5 : decode cX10_hours 5 = .ok (.iload_n 1, 1) := by decide +kernel
theorem dX10_hours_6 : decode cX10_hours 6 = .ok (.bipush 48, 2) := by decide +kernel
theorem dX10_hours_8 : decode cX10_hours 8 = .ok (.if_icmp .gt 15, 3) := by decide +kernel
theorem dX10_hours_11 : decode cX10_hours 11 = .ok (.aload_n 0, 1) := by decide +kernel
theorem dX10_hours_12 : decode cX10_hours 12 = .ok (.getfield 165, 3) := by decide +kernel
theorem dX10_hours_15 : decode cX10_hours 15 = .ok (.iload_n 1, 1) := by decide +kernel
theorem dX10_hours_16 : decode cX10_hours 16 = .ok (.iadd, 1) := by decide +kernel
theorem dX10_hours_17 : decode cX10_hours 17 = .ok (.sipush 719, 3) := by decide +kernel
theorem dX10_hours_20 : decode cX10_hours 20 = .ok (.if_icmp .le 5, 3) := by decide +kernel
theorem dX10_hours_23 : decode cX10_hours 23 = .ok (.iconst (-1), 1) := by decide +kernel
theorem dX10_hours_24 : decode cX10_hours 24 = .ok (.ireturn, 1) := by decide +kernel
theorem dX10_hours_25 : decode cX10_hours 25 = .ok (.iconst 0, 1) := by decide +kernel
theorem dX10_hours_26 : decode cX10_hours 26 = .ok (.istore_n 2, 1) := by decide +kernel
theorem dX10_hours_27 : decode cX10_hours 27 = .ok (.iload_n 2, 1) := by decide +kernel
theorem dX10_hours_28 : decode cX10_hours 28 = .ok (.iload_n 1, 1) := by decide +kernel
theorem dX10_hours_29 : decode cX10_hours 29 = .ok (.if_icmp .ge 95, 3) := by decide +kernel
theorem dX10_hours_32 : decode cX10_hours 32 = .ok (.aload_n 0, 1) := by decide +kernel
theorem dX10_hours_33 : decode cX10_hours 33 = .ok (.getfield 12, 3) := by decide +kernel
theorem dX10_hours_36 : decode cX10_hours 36 = .ok (.aload_n 0, 1) := by decide +kernel
theorem dX10_hours_37 : decode cX10_hours 37 = .ok (.getfield 165, 3) := by decide +kernel
theorem dX10_hours_40 : decode cX10_hours 40 = .ok (.invokevirtual 168, 3) := by decide +kernel
theorem dX10_hours_43 : decode cX10_hours 43 = .ok (.istore_n 3, 1) := by decide +kernel
theorem dX10_hours_44 : decode cX10_hours 44 = .ok (.aload_n 0, 1) := by decide +kernel
theorem dX10_hours_45 : decode cX10_hours 45 = .ok (.getfield 45, 3) := by decide +kernel
theorem dX10_hours_48 : decode cX10_hours 48 = .ok (.iload_n 3, 1) := by decide +kernel
theorem dX10_hours_49 : decode cX10_hours 49 = .ok (.aload_n 0, 1) := by decide +kernel
theorem dX10_hours_50 : decode cX10_hours 50 = .ok (.getfield 165, 3) := by decide +kernel
theorem dX10_hours_53 : decode cX10_hours 53 = .ok (.bipush 24, 2) := by decide +kernel
theorem dX10_hours_55 : decode cX10_hours 55 = .ok (.irem, 1) := by decide +kernel
theorem dX10_hours_56 : decode cX10_hours 56 = .ok (.invokevirtual 171, 3) := by decide +kernel
theorem dX10_hours_59 : decode cX10_hours 59 = .ok (.aload_n 0, 1) := by decide +kernel
theorem dX10_hours_60 : decode cX10_hours 60 = .ok (.getfield 21, 3) := by decide +kernel
theorem dX10_hours_63 : decode cX10_hours 63 = .ok (.aload_n 0, 1) := by decide +kernel
theorem dX10_hours_64 : decode cX10_hours 64 = .ok (.getfield 45, 3) := by decide +kernel
theorem dX10_hours_67 : decode cX10_hours 67 = .ok (.iload_n 3, 1) := by decide +kernel
theorem dX10_hours_68 : decode cX10_hours 68 = .ok (.invokevirtual 175, 3) := by decide +kernel
theorem dX10_hours_71 : decode cX10_hours 71 = .ok (.aload_n 0, 1) := by decide +kernel
theorem dX10_hours_72 : decode cX10_hours 72 = .ok (.getfield 21, 3) := by decide +kernel
theorem dX10_hours_75 : decode cX10_hours 75 = .ok (.aload_n 0, 1) := by decide +kernel
theorem dX10_hours_76 : decode cX10_hours 76 = .ok (.getfield 45, 3) := by decide +kernel
theorem dX10_hours_79 : decode cX10_hours 79 = .ok (.invokevirtual 179, 3) := by decide +kernel
theorem dX10_hours_82 : decode cX10_hours 82 = .ok (.aload_n 0, 1) := by decide +kernel
theorem dX10_hours_83 : decode cX10_hours 83 = .ok (.getfield 28, 3) := by decide +kernel
theorem dX10_hours_86 : decode cX10_hours 86 = .ok (.aload_n 0, 1) := by decide +kernel
theorem dX10_hours_87 : decode cX10_hours 87 = .ok (.getfield 45, 3) := by decide +kernel
theorem dX10_hours_90 : decode cX10_hours 90 = .ok (.aload_n 0, 1) := by decide +kernel
theorem dX10_hours_91 : decode cX10_hours 91 = .ok (.getfield 12, 3) := by decide +kernel
theorem dX10_hours_94 : decode cX10_hours 94 = .ok (.aload_n 0, 1) := by decide +kernel
theorem dX10_hours_95 : decode cX10_hours 95 = .ok (.getfield 165, 3) := by decide +kernel
theorem dX10_hours_98 : decode cX10_hours 98 = .ok (.invokevirtual 183, 3) := by decide +kernel
theorem dX10_hours_101 : decode cX10_hours 101 = .ok (.aload_n 0, 1) := by decide +kernel
theorem dX10_hours_102 : decode cX10_hours 102 = .ok (.getfield 165, 3) := by decide +kernel
theorem dX10_hours_105 : decode cX10_hours 105 = .ok (.invokevirtual 186, 3) := by decide +kernel
theorem dX10_hours_108 : decode cX10_hours 108 = .ok (.aload_n 0, 1) := by decide +kernel
theorem dX10_hours_109 : decode cX10_hours 109 = .ok (.dup, 1) := by decide +kernel
theorem dX10_hours_110 : decode cX10_hours 110 = .ok (.getfield 165, 3) := by decide +kernel
theorem dX10_hours_113 : decode cX10_hours 113 = .ok (.iconst 1, 1) := by decide +kernel
theorem dX10_hours_114 : decode cX10_hours 114 = .ok (.iadd, 1) := by decide +kernel
theorem dX10_hours_115 : decode cX10_hours 115 = .ok (.putfield 165, 3) := by decide +kernel
theorem dX10_hours_118 : decode cX10_hours 118 = .ok (.iinc 2 1, 3) := by decide +kernel
theorem dX10_hours_121 : decode cX10_hours 121 = .ok (.goto (-94), 3) := by decide +kernel
theorem dX10_hours_124 : decode cX10_hours 124 = .ok (.aload_n 0, 1) := by decide +kernel
theorem dX10_hours_125 : decode cX10_hours 125 = .ok (.getfield 165, 3) := by decide +kernel
theorem dX10_hours_128 : decode cX10_hours 128 = .ok (.ireturn, 1) := by decide +kernel
theorem dX10_staysTill_0 : decode cX10_staysTill 0 = .ok (.aload_n 0, 1) := by decide +kernel
theorem dX10_staysTill_1 : decode cX10_staysTill 1 = .ok (.getfield 32, 3) := by decide +kernel
theorem dX10_staysTill_4 : decode cX10_staysTill 4 = .ok (.aload_n 0, 1) := by decide +kernel
theorem dX10_staysTill_5 : decode cX10_staysTill 5 = .ok (.getfield 28, 3) := by decide +kernel
theorem dX10_staysTill_8 : decode cX10_staysTill 8 = .ok (.invokevirtual 323, 3) := by decide +kernel
theorem dX10_staysTill_11 : decode cX10_staysTill 11 = .ok (.aload_n 0, 1) := by decide +kernel
theorem dX10_staysTill_12 : decode cX10_staysTill 12 = .ok (.getfield 165, 3) := by decide +kernel
theorem dX10_staysTill_15 : decode cX10_staysTill 15 = .ok (.istore_n 2, 1) := by decide +kernel
theorem dX10_staysTill_16 : decode cX10_staysTill 16 = .ok (.iload_n 2, 1) := by decide +kernel
theorem dX10_staysTill_17 : decode cX10_staysTill 17 = .ok (.iload_n 1, 1) := by decide +kernel
theorem dX10_staysTill_18 : decode cX10_staysTill 18 = .ok (.if_icmp .ge 59, 3) := by decide +kernel
theorem dX10_staysTill_21 : decode cX10_staysTill 21 = .ok (.aload_n 0, 1) := by decide +kernel
theorem dX10_staysTill_22 : decode cX10_staysTill 22 = .ok (.getfield 32, 3) := by decide +kernel
theorem dX10_staysTill_25 : decode cX10_staysTill 25 = .ok (.getfield 219, 3) := by decide +kernel
theorem dX10_staysTill_28 : decode cX10_staysTill 28 = .ok (.iconst (-1), 1) := by decide +kernel
theorem dX10_staysTill_29 : decode cX10_staysTill 29 = .ok (.if_icmp .ne 48, 3) := by decide +kernel
theorem dX10_staysTill_32 : decode cX10_staysTill 32 = .ok (.aload_n 0, 1) := by decide +kernel
theorem dX10_staysTill_33 : decode cX10_staysTill 33 = .ok (.getfield 45, 3) := by decide +kernel
theorem dX10_staysTill_36 : decode cX10_staysTill 36 = .ok (.aload_n 0, 1) := by decide +kernel
theorem dX10_staysTill_37 : decode cX10_staysTill 37 = .ok (.getfield 12, 3) := by decide +kernel
theorem dX10_staysTill_40 : decode cX10_staysTill 40 = .ok (.iload_n 2, 1) := by decide +kernel
theorem dX10_staysTill_41 : decode cX10_staysTill 41 = .ok (.invokevirtual 168, 3) := by decide +kernel
theorem dX10_staysTill_44 : decode cX10_staysTill 44 = .ok (.iload_n 2, 1) := by decide +kernel
theorem dX10_staysTill_45 : decode cX10_staysTill 45 = .ok (.bipush 24, 2) := by decide +kernel
theorem dX10_staysTill_47 : decode cX10_staysTill 47 = .ok (.irem, 1) := by decide +kernel
theorem dX10_staysTill_48 : decode cX10_staysTill 48 = .ok (.invokevirtual 171, 3) := by decide +kernel
theorem dX10_staysTill_51 : decode cX10_staysTill 51 = .ok (.aload_n 0, 1) := by decide +kernel
theorem dX10_staysTill_52 : decode cX10_staysTill 52 = .ok (.getfield 32, 3) := by decide +kernel
theorem dX10_staysTill_55 : decode cX10_staysTill 55 = .ok (.aload_n 0, 1) := by decide +kernel
theorem dX10_staysTill_56 : decode cX10_staysTill 56 = .ok (.getfield 45, 3) := by decide +kernel
theorem dX10_staysTill_59 : decode cX10_staysTill 59 = .ok (.aload_n 0, 1) := by decide +kernel
theorem dX10_staysTill_60 : decode cX10_staysTill 60 = .ok (.getfield 12, 3) := by decide +kernel
theorem dX10_staysTill_63 : decode cX10_staysTill 63 = .ok (.iload_n 2, 1) := by decide +kernel
theorem dX10_staysTill_64 : decode cX10_staysTill 64 = .ok (.invokevirtual 183, 3) := by decide +kernel
theorem dX10_staysTill_67 : decode cX10_staysTill 67 = .ok (.iload_n 2, 1) := by decide +kernel
theorem dX10_staysTill_68 : decode cX10_staysTill 68 = .ok (.invokevirtual 186, 3) := by decide +kernel
theorem dX10_staysTill_71 : decode cX10_staysTill 71 = .ok (.iinc 2 1, 3) := by decide +kernel
theorem dX10_staysTill_74 : decode cX10_staysTill 74 = .ok (.goto (-58), 3) := by decide +kernel
theorem dX10_staysTill_77 : decode cX10_staysTill 77 = .ok (.aload_n 0, 1) := by decide +kernel
theorem dX10_staysTill_78 : decode cX10_staysTill 78 = .ok (.getfield 32, 3) := by decide +kernel
theorem dX10_staysTill_81 : decode cX10_staysTill 81 = .ok (.getfield 219, 3) := by decide +kernel
theorem dX10_staysTill_84 : decode cX10_staysTill 84 = .ok (.iconst (-1), 1) := by decide +kernel
theorem dX10_staysTill_85 : decode cX10_staysTill 85 = .ok (.if_icmp .ne 7, 3) := by decide +kernel
theorem dX10_staysTill_88 : decode cX10_staysTill 88 = .ok (.iconst 1, 1) := by decide +kernel
theorem dX10_staysTill_89 : decode cX10_staysTill 89 = .ok (.goto 4, 3) := by decide +kernel
theorem dX10_staysTill_92 : decode cX10_staysTill 92 = .ok (.iconst 0, 1) := by decide +kernel
theorem dX10_staysTill_93 : decode cX10_staysTill 93 = .ok (.ireturn, 1) := by decide +kernel
theorem dX10_reach_0 : decode cX10_reach 0 = .ok (.iload_n 1, 1) := by decide +kernel
theorem dX10_reach_1 : decode cX10_reach 1 = .ok (.iconst (-1), 1) := by decide +kernel
theorem dX10_reach_2 : decode cX10_reach 2 = .ok (.if_icmp .ne 10, 3) := by decide +kernel
theorem dX10_reach_5 : decode cX10_reach 5 = .ok (.aload_n 0, 1) := by decide +kernel
theorem dX10_reach_6 : decode cX10_reach 6 = .ok (.invokevirtual 296, 3) := by decide +kernel
theorem dX10_reach_9 : decode cX10_reach 9 = .ok (.goto 4, 3) := by decide +kernel
theorem dX10_reach_12 : decode cX10_reach 12 = .ok (.iload_n 1, 1) := by decide +kernel
theorem dX10_reach_13 : decode cX10_reach 13 = .ok (.istore_n 2, 1) := by decide +kernel
theorem dX10_reach_14 : decode cX10_reach 14 = .ok (.iload_n 2, 1) := by decide +kernel
theorem dX10_reach_15 : decode cX10_reach 15 = .ok (.aload_n 0, 1) := by decide +kernel
theorem dX10_reach_16 : decode cX10_reach 16 = .ok (.getfield 293, 3) := by decide +kernel
theorem dX10_reach_19 : decode cX10_reach 19 = .ok (.invokestatic 85, 3) := by decide +kernel
theorem dX10_reach_22 : decode cX10_reach 22 = .ok (.ifCond .eq 24, 3) := by decide +kernel
theorem dX10_reach_25 : decode cX10_reach 25 = .ok (.aload_n 0, 1) := by decide +kernel
theorem dX10_reach_26 : decode cX10_reach 26 = .ok (.getfield 28, 3) := by decide +kernel
theorem dX10_reach_29 : decode cX10_reach 29 = .ok (.getfield 193, 3) := by decide +kernel
theorem dX10_reach_32 : decode cX10_reach 32 = .ok (.ifCond .eq 14, 3) := by decide +kernel
theorem dX10_reach_35 : decode cX10_reach 35 = .ok (.aload_n 0, 1) := by decide +kernel
theorem dX10_reach_36 : decode cX10_reach 36 = .ok (.getfield 28, 3) := by decide +kernel
theorem dX10_reach_39 : decode cX10_reach 39 = .ok (.getfield 219, 3) := by decide +kernel
theorem dX10_reach_42 : decode cX10_reach 42 = .ok (.iconst (-1), 1) := by decide +kernel
theorem dX10_reach_43 : decode cX10_reach 43 = .ok (.if_icmp .eq 5, 3) := by decide +kernel
theorem dX10_reach_46 : decode cX10_reach 46 = .ok (.iconst (-1), 1) := by decide +kernel
theorem dX10_reach_47 : decode cX10_reach 47 = .ok (.ireturn, 1) := by decide +kernel
theorem dX10_reach_48 : decode cX10_reach 48 = .ok (.aload_n 0, 1) := by decide +kernel
theorem dX10_reach_49 : decode cX10_reach 49 = .ok (.getfield 165, 3) := by decide +kernel
theorem dX10_reach_52 : decode cX10_reach 52 = .ok (.aload_n 0, 1) := by decide +kernel
theorem dX10_reach_53 : decode cX10_reach 53 = .ok (.getfield 77, 3) := by decide +kernel
theorem dX10_reach_56 : decode cX10_reach 56 = .ok (.iload_n 2, 1) := by decide +kernel
theorem dX10_reach_57 : decode cX10_reach 57 = .ok (.iaload, 1) := by decide +kernel
theorem dX10_reach_58 : decode cX10_reach 58 = .ok (.iadd, 1) := by decide +kernel
theorem dX10_reach_59 : decode cX10_reach 59 = .ok (.istore_n 3, 1) := by decide +kernel
theorem dX10_reach_60 : decode cX10_reach 60 = .ok (.iload_n 3, 1) := by decide +kernel
theorem dX10_reach_61 : decode cX10_reach 61 = .ok (.sipush 719, 3) := by decide +kernel
theorem dX10_reach_64 : decode cX10_reach 64 = .ok (.if_icmp .le 5, 3) := by decide +kernel
theorem dX10_reach_67 : decode cX10_reach 67 = .ok (.iconst (-1), 1) := by decide +kernel
theorem dX10_reach_68 : decode cX10_reach 68 = .ok (.ireturn, 1) := by decide +kernel
theorem dX10_reach_69 : decode cX10_reach 69 = .ok (.aload_n 0, 1) := by decide +kernel
theorem dX10_reach_70 : decode cX10_reach 70 = .ok (.iload_n 3, 1) := by decide +kernel
theorem dX10_reach_71 : decode cX10_reach 71 = .ok (.invokevirtual 299, 3) := by decide +kernel
theorem dX10_reach_74 : decode cX10_reach 74 = .ok (.istore 4, 2) := by decide +kernel
theorem dX10_reach_76 : decode cX10_reach 76 = .ok (.iload_n 1, 1) := by decide +kernel
theorem dX10_reach_77 : decode cX10_reach 77 = .ok (.iconst (-1), 1) := by decide +kernel
theorem dX10_reach_78 : decode cX10_reach 78 = .ok (.if_icmp .ne 14, 3) := by decide +kernel
theorem dX10_reach_81 : decode cX10_reach 81 = .ok (.iload 4, 2) := by decide +kernel
theorem dX10_reach_83 : decode cX10_reach 83 = .ok (.ifCond .eq 7, 3) := by decide +kernel
theorem dX10_reach_86 : decode cX10_reach 86 = .ok (.iload_n 2, 1) := by decide +kernel
theorem dX10_reach_87 : decode cX10_reach 87 = .ok (.goto 4, 3) := by decide +kernel
theorem dX10_reach_90 : decode cX10_reach 90 = .ok (.iconst (-1), 1) := by decide +kernel
theorem dX10_reach_91 : decode cX10_reach 91 = .ok (.ireturn, 1) := by decide +kernel
theorem dX10_reach_92 : decode cX10_reach 92 = .ok (.iload 4, 2) := by decide +kernel
theorem dX10_reach_94 : decode cX10_reach 94 = .ok (.ifCond .eq 7, 3) := by decide +kernel
theorem dX10_reach_97 : decode cX10_reach 97 = .ok (.iconst 1, 1) := by decide +kernel
theorem dX10_reach_98 : decode cX10_reach 98 = .ok (.goto 4, 3) := by decide +kernel
theorem dX10_reach_101 : decode cX10_reach 101 = .ok (.iconst 0, 1) := by decide +kernel
theorem dX10_reach_102 : decode cX10_reach 102 = .ok (.ireturn, 1) := by decide +kernel
