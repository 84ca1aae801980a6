theorem iX0 : ∀ w ∈ u_ws RX0 TX0 5, w ∈ gT := fun w h => List.mem_filter.mpr ⟨(by decide +kernel : ∀ w ∈ u_ws RX0 TX0 5, w ∈ lw_tbl) w h, (by decide +kernel : ∀ w ∈ u_ws RX0 TX0 5, goodWord w = true) w h⟩
theorem iX1 : ∀ w ∈ u_ws RX1 TX1 5, w ∈ gT := fun w h => List.mem_filter.mpr ⟨(by decide +kernel : ∀ w ∈ u_ws RX1 TX1 5, w ∈ lw_tbl) w h, (by decide +kernel : ∀ w ∈ u_ws RX1 TX1 5, goodWord w = true) w h⟩
theorem iX2 : ∀ w ∈ u_ws RX2 TX2 3, w ∈ gT := fun w h => List.mem_filter.mpr ⟨(by decide +kernel : ∀ w ∈ u_ws RX2 TX2 3, w ∈ lw_tbl) w h, (by decide +kernel : ∀ w ∈ u_ws RX2 TX2 3, goodWord w = true) w h⟩
theorem iX3 : ∀ w ∈ u_ws RX3 TX3 2, w ∈ gT := fun w h => List.mem_filter.mpr ⟨(by decide +kernel : ∀ w ∈ u_ws RX3 TX3 2, w ∈ lw_tbl) w h, (by decide +kernel : ∀ w ∈ u_ws RX3 TX3 2, goodWord w = true) w h⟩
theorem iX4 : ∀ w ∈ u_ws RX4 TX4 10, w ∈ gT := fun w h => List.mem_filter.mpr ⟨(by decide +kernel : ∀ w ∈ u_ws RX4 TX4 10, w ∈ lw_tbl) w h, (by decide +kernel : ∀ w ∈ u_ws RX4 TX4 10, goodWord w = true) w h⟩
theorem iX5 : ∀ w ∈ u_ws RX5 TX5 7, w ∈ gT := fun w h => List.mem_filter.mpr ⟨(by decide +kernel : ∀ w ∈ u_ws RX5 TX5 7, w ∈ lw_tbl) w h, (by decide +kernel : ∀ w ∈ u_ws RX5 TX5 7, goodWord w = true) w h⟩
theorem iX6 : ∀ w ∈ u_ws RX6 TX6 3, w ∈ gT := fun w h => List.mem_filter.mpr ⟨(by decide +kernel : ∀ w ∈ u_ws RX6 TX6 3, w ∈ lw_tbl) w h, (by decide +kernel : ∀ w ∈ u_ws RX6 TX6 3, goodWord w = true) w h⟩
theorem iX7 : ∀ w ∈ u_ws RX7 TX7 2, w ∈ gT := fun w h => List.mem_filter.mpr ⟨(by decide +kernel : ∀ w ∈ u_ws RX7 TX7 2, w ∈ lw_tbl) w h, (by decide +kernel : ∀ w ∈ u_ws RX7 TX7 2, goodWord w = true) w h⟩
theorem iX8 : ∀ w ∈ u_ws RX8 TX8 8, w ∈ gT := fun w h => List.mem_filter.mpr ⟨(by decide +kernel : ∀ w ∈ u_ws RX8 TX8 8, w ∈ lw_tbl) w h, (by decide +kernel : ∀ w ∈ u_ws RX8 TX8 8, goodWord w = true) w h⟩
theorem iX9 : ∀ w ∈ u_ws RX9 TX9 8, w ∈ gT := fun w h => List.mem_filter.mpr ⟨(by decide +kernel : ∀ w ∈ u_ws RX9 TX9 8, w ∈ lw_tbl) w h, (by decide +kernel : ∀ w ∈ u_ws RX9 TX9 8, goodWord w = true) w h⟩
theorem iX10 : ∀ w ∈ u_ws RX10 TX10 14, w ∈ gT := fun w h => List.mem_filter.mpr ⟨(by decide +kernel : ∀ w ∈ u_ws RX10 TX10 14, w ∈ lw_tbl) w h, (by decide +kernel : ∀ w ∈ u_ws RX10 TX10 14, goodWord w = true) w h⟩
theorem iX11 : ∀ w ∈ u_ws RX11 TX11 63, w ∈ gT := fun w h => List.mem_filter.mpr ⟨(by decide +kernel : ∀ w ∈ u_ws RX11 TX11 63, w ∈ lw_tbl) w h, (by decide +kernel : ∀ w ∈ u_ws RX11 TX11 63, goodWord w = true) w h⟩
theorem wm_49 : Cond.fieldLink "SoupCargo$Stacks" 28 "SoupCargo$Stacks" "ore" "[I" ∈ gT := gT_T 55 (by decide +kernel) (by decide +kernel)
theorem wm_53 : Cond.fieldLink "SoupCargo$Stacks" 32 "SoupCargo$Stacks" "water" "[I" ∈ gT := gT_T 60 (by decide +kernel) (by decide +kernel)
theorem wm_81 : Cond.fieldLink "SoupCargo" 28 "SoupCargo" "vessel" "LSoupCargo$Ship;" ∈ gT := gT_T 296 (by decide +kernel) (by decide +kernel)
theorem wm_88 : Cond.methodLink "SoupCargo" 85 ⟨"SoupCargo", "within", "(II)Z"⟩ ∈ gT := gT_T 341 (by decide +kernel) (by decide +kernel)
theorem wm_89 : Cond.static ⟨"SoupCargo", "within", "(II)Z"⟩ ∈ gT := gT_T 342 (by decide +kernel) (by decide +kernel)
theorem wm_90 : Cond.initialized "SoupCargo" ∈ gT := gT_T 1 (by decide +kernel) (by decide +kernel)
theorem wm_91 : Cond.code ⟨"SoupCargo", "within", "(II)Z"⟩ prog_1_method_32_code 2 (Option.some Jvm.ClassFile.FieldType.boolean) ∈ gT := gT_T 343 (by decide +kernel) (by decide +kernel)
theorem wm_92 : Cond.methodLink "SoupCargo" 190 ⟨"SoupCargo", "holdCell", "(III)I"⟩ ∈ gT := gT_T 376 (by decide +kernel) (by decide +kernel)
theorem wm_93 : Cond.static ⟨"SoupCargo", "holdCell", "(III)I"⟩ ∈ gT := gT_T 377 (by decide +kernel) (by decide +kernel)
theorem wm_94 : Cond.code ⟨"SoupCargo", "holdCell", "(III)I"⟩ prog_1_method_35_code 3 (Option.some Jvm.ClassFile.FieldType.int) ∈ gT := gT_T 378 (by decide +kernel) (by decide +kernel)
theorem wm_95 : Cond.methodLink "SoupCargo" 96 ⟨"SoupCargo", "heapCell", "(III)I"⟩ ∈ gT := gT_T 357 (by decide +kernel) (by decide +kernel)
theorem wm_96 : Cond.static ⟨"SoupCargo", "heapCell", "(III)I"⟩ ∈ gT := gT_T 358 (by decide +kernel) (by decide +kernel)
theorem wm_97 : Cond.code ⟨"SoupCargo", "heapCell", "(III)I"⟩ prog_1_method_34_code 3 (Option.some Jvm.ClassFile.FieldType.int) ∈ gT := gT_T 359 (by decide +kernel) (by decide +kernel)
theorem wm_98 : Cond.fieldLink "SoupCargo" 196 "SoupCargo$Ship" "holds" "LSoupCargo$Stacks;" ∈ gT := gT_T 95 (by decide +kernel) (by decide +kernel)
theorem wm_99 : Cond.fieldLink "SoupCargo" 21 "SoupCargo" "pile" "LSoupCargo$Stacks;" ∈ gT := gT_T 295 (by decide +kernel) (by decide +kernel)
theorem wm_103 : Cond.fieldLink "SoupCargoModel" 141 "SoupCargoModel" "told" "I" ∈ gT := gT_T 1019 (by decide +kernel) (by decide +kernel)
theorem wm_104 : Cond.methodLink "SoupCargoModel" 144 ⟨"SoupCargoModel", "isIn", "(III)Z"⟩ ∈ gT := gT_T 1213 (by decide +kernel) (by decide +kernel)
theorem wm_105 : Cond.instanceMethod ⟨"SoupCargoModel", "isIn", "(III)Z"⟩ ∈ gT := gT_T 1215 (by decide +kernel) (by decide +kernel)
theorem wm_106 : Cond.selects "SoupCargoModel" ⟨"SoupCargoModel", "isIn", "(III)Z"⟩ ⟨"SoupCargoModel", "isIn", "(III)Z"⟩ ∈ gT := gT_S 33 (q := (⟨"SoupCargoModel", "isIn", "(III)Z"⟩, 63)) (by decide +kernel)
theorem wm_107 : Cond.initialized "SoupCargoModel" ∈ gT := gT_T 13 (by decide +kernel) (by decide +kernel)
theorem wm_108 : Cond.code ⟨"SoupCargoModel", "isIn", "(III)Z"⟩ prog_13_method_3_code 4 (Option.some Jvm.ClassFile.FieldType.boolean) ∈ gT := gT_T 1216 (by decide +kernel) (by decide +kernel)
theorem wm_109 : Cond.fieldLink "SoupCargoModel" 148 "SoupCargoModel" "sortOf" "I" ∈ gT := gT_T 1021 (by decide +kernel) (by decide +kernel)
theorem wm_112 : Cond.methodLink "SoupCargoModel" 151 ⟨"SoupCargoModel", "heapAt", "(III)I"⟩ ∈ gT := gT_T 1225 (by decide +kernel) (by decide +kernel)
theorem wm_113 : Cond.instanceMethod ⟨"SoupCargoModel", "heapAt", "(III)I"⟩ ∈ gT := gT_T 1227 (by decide +kernel) (by decide +kernel)
theorem wm_114 : Cond.selects "SoupCargoModel" ⟨"SoupCargoModel", "heapAt", "(III)I"⟩ ⟨"SoupCargoModel", "heapAt", "(III)I"⟩ ∈ gT := gT_S 34 (q := (⟨"SoupCargoModel", "heapAt", "(III)I"⟩, 63)) (by decide +kernel)
theorem wm_115 : Cond.code ⟨"SoupCargoModel", "heapAt", "(III)I"⟩ prog_13_method_6_code 4 (Option.some Jvm.ClassFile.FieldType.int) ∈ gT := gT_T 1228 (by decide +kernel) (by decide +kernel)
theorem wm_116 : Cond.fieldLink "SoupCargoModel" 16 "SoupCargoModel" "heapOre" "[I" ∈ gT := gT_T 1024 (by decide +kernel) (by decide +kernel)
theorem wm_117 : Cond.fieldLink "SoupCargoModel" 19 "SoupCargoModel" "heapWater" "[I" ∈ gT := gT_T 1025 (by decide +kernel) (by decide +kernel)
theorem wm_491 : Cond.fieldLink "SoupCargo$Sky" 11 "SoupCargo$Sky" "rains" "[I" ∈ gT := gT_T 35 (by decide +kernel) (by decide +kernel)
theorem wm_492 : Cond.fieldLink "SoupCargo$Sky" 15 "SoupCargo$Sky" "swells" "[I" ∈ gT := gT_T 36 (by decide +kernel) (by decide +kernel)
theorem wm_493 : Cond.fieldLink "SoupCargo$Stacks" 9 "SoupCargo$Stacks" "columns" "I" ∈ gT := gT_T 52 (by decide +kernel) (by decide +kernel)
theorem wm_494 : Cond.fieldLink "SoupCargo$Stacks" 15 "SoupCargo$Stacks" "layers" "I" ∈ gT := gT_T 53 (by decide +kernel) (by decide +kernel)
theorem wm_501 : Cond.instanceMethod ⟨"SoupCargo$Stacks", "height", "(I)I"⟩ ∈ gT := gT_T 361 (by decide +kernel) (by decide +kernel)
theorem wm_502 : Cond.selects "SoupCargo$Stacks" ⟨"SoupCargo$Stacks", "height", "(I)I"⟩ ⟨"SoupCargo$Stacks", "height", "(I)I"⟩ ∈ gT := gT_T 362 (by decide +kernel) (by decide +kernel)
theorem wm_503 : Cond.initialized "SoupCargo$Stacks" ∈ gT := gT_T 3 (by decide +kernel) (by decide +kernel)
theorem wm_504 : Cond.code ⟨"SoupCargo$Stacks", "height", "(I)I"⟩ prog_10_method_4_code 3 (Option.some Jvm.ClassFile.FieldType.int) ∈ gT := gT_T 363 (by decide +kernel) (by decide +kernel)
theorem wm_509 : Cond.fieldLink "SoupCargo" 45 "SoupCargo" "rules" "LSoupCargo$Laws;" ∈ gT := gT_T 299 (by decide +kernel) (by decide +kernel)
theorem wm_510 : Cond.fieldLink "SoupCargo" 89 "SoupCargo$Laws" "oreSort" "I" ∈ gT := gT_T 206 (by decide +kernel) (by decide +kernel)
theorem wm_511 : Cond.fieldLink "SoupCargo" 12 "SoupCargo" "weather" "LSoupCargo$Sky;" ∈ gT := gT_T 294 (by decide +kernel) (by decide +kernel)
theorem wm_512 : Cond.methodLink "SoupCargo" 92 ⟨"SoupCargo$Sky", "tell", "(III)Z"⟩ ∈ gT := gT_T 348 (by decide +kernel) (by decide +kernel)
theorem wm_513 : Cond.instanceMethod ⟨"SoupCargo$Sky", "tell", "(III)Z"⟩ ∈ gT := gT_T 349 (by decide +kernel) (by decide +kernel)
theorem wm_514 : Cond.selects "SoupCargo$Sky" ⟨"SoupCargo$Sky", "tell", "(III)Z"⟩ ⟨"SoupCargo$Sky", "tell", "(III)Z"⟩ ∈ gT := gT_T 350 (by decide +kernel) (by decide +kernel)
theorem wm_515 : Cond.initialized "SoupCargo$Sky" ∈ gT := gT_T 2 (by decide +kernel) (by decide +kernel)
theorem wm_516 : Cond.code ⟨"SoupCargo$Sky", "tell", "(III)Z"⟩ prog_9_method_2_code 4 (Option.some Jvm.ClassFile.FieldType.boolean) ∈ gT := gT_T 351 (by decide +kernel) (by decide +kernel)
theorem wm_517 : Cond.methodLink "SoupCargo" 100 ⟨"SoupCargo$Stacks", "height", "(I)I"⟩ ∈ gT := gT_T 360 (by decide +kernel) (by decide +kernel)
theorem wm_518 : Cond.fieldLink "SoupCargo" 104 "SoupCargo$Stacks" "ore" "[I" ∈ gT := gT_T 57 (by decide +kernel) (by decide +kernel)
theorem wm_519 : Cond.fieldLink "SoupCargo" 107 "SoupCargo$Stacks" "water" "[I" ∈ gT := gT_T 61 (by decide +kernel) (by decide +kernel)
theorem wm_520 : Cond.methodLink "SoupCargo" 110 ⟨"SoupCargo", "stacksOf", "(I)LSoupCargo$Stacks;"⟩ ∈ gT := gT_T 369 (by decide +kernel) (by decide +kernel)
theorem wm_521 : Cond.instanceMethod ⟨"SoupCargo", "stacksOf", "(I)LSoupCargo$Stacks;"⟩ ∈ gT := gT_T 371 (by decide +kernel) (by decide +kernel)
theorem wm_522 : Cond.selects "SoupCargo" ⟨"SoupCargo", "stacksOf", "(I)LSoupCargo$Stacks;"⟩ ⟨"SoupCargo", "stacksOf", "(I)LSoupCargo$Stacks;"⟩ ∈ gT := gT_S 0 (q := (⟨"SoupCargo", "stacksOf", "(I)LSoupCargo$Stacks;"⟩, 14)) (by decide +kernel)
theorem wm_523 : Cond.code ⟨"SoupCargo", "stacksOf", "(I)LSoupCargo$Stacks;"⟩ prog_1_method_37_code 2 (Option.some (Jvm.ClassFile.FieldType.object "SoupCargo$Stacks")) ∈ gT := gT_T 372 (by decide +kernel) (by decide +kernel)
theorem wm_524 : Cond.methodLink "SoupCargo" 114 ⟨"SoupCargo", "cellOf", "(IIII)I"⟩ ∈ gT := gT_T 373 (by decide +kernel) (by decide +kernel)
theorem wm_525 : Cond.static ⟨"SoupCargo", "cellOf", "(IIII)I"⟩ ∈ gT := gT_T 374 (by decide +kernel) (by decide +kernel)
theorem wm_526 : Cond.code ⟨"SoupCargo", "cellOf", "(IIII)I"⟩ prog_1_method_36_code 4 (Option.some Jvm.ClassFile.FieldType.int) ∈ gT := gT_T 375 (by decide +kernel) (by decide +kernel)
theorem wm_527 : Cond.methodLink "SoupCargo" 118 ⟨"SoupCargo$Stacks", "wetAt", "(I)I"⟩ ∈ gT := gT_T 379 (by decide +kernel) (by decide +kernel)
theorem wm_528 : Cond.instanceMethod ⟨"SoupCargo$Stacks", "wetAt", "(I)I"⟩ ∈ gT := gT_T 380 (by decide +kernel) (by decide +kernel)
theorem wm_529 : Cond.selects "SoupCargo$Stacks" ⟨"SoupCargo$Stacks", "wetAt", "(I)I"⟩ ⟨"SoupCargo$Stacks", "wetAt", "(I)I"⟩ ∈ gT := gT_T 381 (by decide +kernel) (by decide +kernel)
theorem wm_530 : Cond.code ⟨"SoupCargo$Stacks", "wetAt", "(I)I"⟩ prog_10_method_3_code 2 (Option.some Jvm.ClassFile.FieldType.int) ∈ gT := gT_T 382 (by decide +kernel) (by decide +kernel)
theorem wm_531 : Cond.fieldLink "SoupCargo" 121 "SoupCargo$Stacks" "shaken" "[I" ∈ gT := gT_T 64 (by decide +kernel) (by decide +kernel)
theorem wm_532 : Cond.fieldLink "SoupCargo" 124 "SoupCargo$Stacks" "soup" "[I" ∈ gT := gT_T 66 (by decide +kernel) (by decide +kernel)
theorem gs_RX10_85 : GoodIn gT (va_wsS RX10 85 yX10_within (Cond.code yX10_within cX10_within 2 (some .boolean) :: gT)) := gT_Q wm_88 wm_89 wm_90 wm_91
theorem gs_RX10_190 : GoodIn gT (va_wsS RX10 190 yX10_holdCell (Cond.code yX10_holdCell cX10_holdCell 3 (some .int) :: gT)) := gT_Q wm_92 wm_93 wm_90 wm_94
theorem gs_RX10_96 : GoodIn gT (va_wsS RX10 96 yX10_heapCell (Cond.code yX10_heapCell cX10_heapCell 3 (some .int) :: gT)) := gT_Q wm_95 wm_96 wm_90 wm_97
theorem gv_RX11_144 : GoodIn gT (wsV RX11 144 RX11 yX11_isIn (Cond.code yX11_isIn cX11_isIn 4 (some .boolean) :: gT)) := gT_V wm_104 wm_105 wm_106 wm_107 wm_108
theorem gv_RX11_151 : GoodIn gT (wsV RX11 151 RX11 yX11_heapAt (Cond.code yX11_heapAt cX11_heapAt 4 (some .int) :: gT)) := gT_V wm_112 wm_113 wm_114 wm_107 wm_115
theorem gv_RX10_92 : GoodIn gT (wsV RX10 92 RX7 yX7_tell (Cond.code yX7_tell cX7_tell 4 (some .boolean) :: gT)) := gT_V wm_512 wm_513 wm_514 wm_515 wm_516
theorem gv_RX10_100 : GoodIn gT (wsV RX10 100 RX8 yX8_height (Cond.code yX8_height cX8_height 3 (some .int) :: gT)) := gT_V wm_517 wm_501 wm_502 wm_503 wm_504
theorem gv_RX10_110 : GoodIn gT (wsV RX10 110 RX10 yX10_stacksOf (Cond.code yX10_stacksOf cX10_stacksOf 2 (some (.object "SoupCargo$Stacks")) :: gT)) := gT_V wm_520 wm_521 wm_522 wm_90 wm_523
theorem gs_RX10_114 : GoodIn gT (va_wsS RX10 114 yX10_cellOf (Cond.code yX10_cellOf cX10_cellOf 4 (some .int) :: gT)) := gT_Q wm_524 wm_525 wm_90 wm_526
theorem gv_RX10_118 : GoodIn gT (wsV RX10 118 RX8 yX8_wetAt (Cond.code yX8_wetAt cX8_wetAt 2 (some .int) :: gT)) := gT_V wm_527 wm_528 wm_529 wm_503 wm_530
