theorem iX0 : ∀ w ∈ u_ws RX0 TX0 5, w ∈ gT := fun w h => List.mem_filter.mpr ⟨(by decide +kernel : ∀ w ∈ u_ws RX0 TX0 5, w ∈ lw_tbl) w h, (by decide +kernel : ∀ w ∈ u_ws RX0 TX0 5, goodWord w = true) w h⟩
theorem iX1 : ∀ w ∈ u_ws RX1 TX1 5, w ∈ gT := fun w h => List.mem_filter.mpr ⟨(by decide +kernel : ∀ w ∈ u_ws RX1 TX1 5, w ∈ lw_tbl) w h, (by decide +kernel : ∀ w ∈ u_ws RX1 TX1 5, goodWord w = true) w h⟩
theorem iX2 : ∀ w ∈ u_ws RX2 TX2 3, w ∈ gT := fun w h => List.mem_filter.mpr ⟨(by decide +kernel : ∀ w ∈ u_ws RX2 TX2 3, w ∈ lw_tbl) w h, (by decide +kernel : ∀ w ∈ u_ws RX2 TX2 3, goodWord w = true) w h⟩
theorem iX3 : ∀ w ∈ u_ws RX3 TX3 2, w ∈ gT := fun w h => List.mem_filter.mpr ⟨(by decide +kernel : ∀ w ∈ u_ws RX3 TX3 2, w ∈ lw_tbl) w h, (by decide +kernel : ∀ w ∈ u_ws RX3 TX3 2, goodWord w = true) w h⟩
theorem iX4 : ∀ w ∈ u_ws RX4 TX4 10, w ∈ gT := fun w h => List.mem_filter.mpr ⟨(by decide +kernel : ∀ w ∈ u_ws RX4 TX4 10, w ∈ lw_tbl) w h, (by decide +kernel : ∀ w ∈ u_ws RX4 TX4 10, goodWord w = true) w h⟩
theorem iX5 : ∀ w ∈ u_ws RX5 TX5 7, w ∈ gT := fun w h => List.mem_filter.mpr ⟨(by decide +kernel : ∀ w ∈ u_ws RX5 TX5 7, w ∈ lw_tbl) w h, (by decide +kernel : ∀ w ∈ u_ws RX5 TX5 7, goodWord w = true) w h⟩
theorem iX6 : ∀ w ∈ u_ws RX6 TX6 3, w ∈ gT := fun w h => List.mem_filter.mpr ⟨(by decide +kernel : ∀ w ∈ u_ws RX6 TX6 3, w ∈ lw_tbl) w h, (by decide +kernel : ∀ w ∈ u_ws RX6 TX6 3, goodWord w = true) w h⟩
theorem iX7 : ∀ w ∈ u_ws RX7 TX7 2, w ∈ gT := fun w h => List.mem_filter.mpr ⟨(by decide +kernel : ∀ w ∈ u_ws RX7 TX7 2, w ∈ lw_tbl) w h, (by decide +kernel : ∀ w ∈ u_ws RX7 TX7 2, goodWord w = true) w h⟩
theorem iX8 : ∀ w ∈ u_ws RX8 TX8 8, w ∈ gT := fun w h => List.mem_filter.mpr ⟨(by decide +kernel : ∀ w ∈ u_ws RX8 TX8 8, w ∈ lw_tbl) w h, (by decide +kernel : ∀ w ∈ u_ws RX8 TX8 8, goodWord w = true) w h⟩
theorem iX9 : ∀ w ∈ u_ws RX9 TX9 8, w ∈ gT := fun w h => List.mem_filter.mpr ⟨(by decide +kernel : ∀ w ∈ u_ws RX9 TX9 8, w ∈ lw_tbl) w h, (by decide +kernel : ∀ w ∈ u_ws RX9 TX9 8, goodWord w = true) w h⟩
theorem iX10 : ∀ w ∈ u_ws RX10 TX10 14, w ∈ gT := fun w h => List.mem_filter.mpr ⟨(by decide +kernel : ∀ w ∈ u_ws RX10 TX10 14, w ∈ lw_tbl) w h, (by decide +kernel : ∀ w ∈ u_ws RX10 TX10 14, goodWord w = true) w h⟩
theorem iX11 : ∀ w ∈ u_ws RX11 TX11 63, w ∈ gT := fun w h => List.mem_filter.mpr ⟨(by decide +kernel : ∀ w ∈ u_ws RX11 TX11 63, w ∈ lw_tbl) w h, (by decide +kernel : ∀ w ∈ u_ws RX11 TX11 63, goodWord w = true) w h⟩
theorem wm_s0 : Cond.selects "SoupCargo" ⟨"SoupCargo", "stacksOf", "(I)LSoupCargo$Stacks;"⟩ ⟨"SoupCargo", "stacksOf", "(I)LSoupCargo$Stacks;"⟩ ∈ gT := gT_S 0 (q := (⟨"SoupCargo", "stacksOf", "(I)LSoupCargo$Stacks;"⟩, 14)) (by decide +kernel)
theorem wm_s1 : Cond.selects "SoupCargo$Reader" ⟨"SoupCargo$Reader", "scan", "()V"⟩ ⟨"SoupCargo$Reader", "scan", "()V"⟩ ∈ gT := gT_S 1 (q := (⟨"SoupCargo$Reader", "scan", "()V"⟩, 10)) (by decide +kernel)
theorem wm_s2 : Cond.selects "SoupCargo$Reader" ⟨"SoupCargo$Reader", "runEnd", "(IZ)I"⟩ ⟨"SoupCargo$Reader", "runEnd", "(IZ)I"⟩ ∈ gT := gT_S 2 (q := (⟨"SoupCargo$Reader", "runEnd", "(IZ)I"⟩, 10)) (by decide +kernel)
theorem wm_s3 : Cond.selects "SoupCargo$Reader" ⟨"SoupCargo$Reader", "wordKind", "(II)I"⟩ ⟨"SoupCargo$Reader", "wordKind", "(II)I"⟩ ∈ gT := gT_S 3 (q := (⟨"SoupCargo$Reader", "wordKind", "(II)I"⟩, 10)) (by decide +kernel)
theorem wm_s4 : Cond.selects "SoupCargo$Reader" ⟨"SoupCargo$Reader", "numberKind", "(II)I"⟩ ⟨"SoupCargo$Reader", "numberKind", "(II)I"⟩ ∈ gT := gT_S 4 (q := (⟨"SoupCargo$Reader", "numberKind", "(II)I"⟩, 10)) (by decide +kernel)
theorem wm_s5 : Cond.selects "SoupCargo$Reader" ⟨"SoupCargo$Reader", "line", "()Z"⟩ ⟨"SoupCargo$Reader", "line", "()Z"⟩ ∈ gT := gT_S 5 (q := (⟨"SoupCargo$Reader", "line", "()Z"⟩, 10)) (by decide +kernel)
theorem wm_s6 : Cond.selects "SoupCargo$Reader" ⟨"SoupCargo$Reader", "headKinds", "()I"⟩ ⟨"SoupCargo$Reader", "headKinds", "()I"⟩ ∈ gT := gT_S 6 (q := (⟨"SoupCargo$Reader", "headKinds", "()I"⟩, 10)) (by decide +kernel)
theorem wm_s7 : Cond.selects "SoupCargo$Reader" ⟨"SoupCargo$Reader", "fail", "(I)Z"⟩ ⟨"SoupCargo$Reader", "fail", "(I)Z"⟩ ∈ gT := gT_S 7 (q := (⟨"SoupCargo$Reader", "fail", "(I)Z"⟩, 10)) (by decide +kernel)
theorem wm_s8 : Cond.selects "SoupCargo$Reader" ⟨"SoupCargo$Reader", "advance", "()V"⟩ ⟨"SoupCargo$Reader", "advance", "()V"⟩ ∈ gT := gT_S 8 (q := (⟨"SoupCargo$Reader", "advance", "()V"⟩, 10)) (by decide +kernel)
theorem wm_s9 : Cond.selects "SoupCargo$Reader" ⟨"SoupCargo$Reader", "lawPart", "(I)Z"⟩ ⟨"SoupCargo$Reader", "lawPart", "(I)Z"⟩ ∈ gT := gT_S 9 (q := (⟨"SoupCargo$Reader", "lawPart", "(I)Z"⟩, 10)) (by decide +kernel)
theorem wm_s10 : Cond.selects "SoupCargo$Reader" ⟨"SoupCargo$Reader", "sum", "()Z"⟩ ⟨"SoupCargo$Reader", "sum", "()Z"⟩ ∈ gT := gT_S 10 (q := (⟨"SoupCargo$Reader", "sum", "()Z"⟩, 10)) (by decide +kernel)
theorem wm_s11 : Cond.selects "SoupCargo$Reader" ⟨"SoupCargo$Reader", "unit", "()Z"⟩ ⟨"SoupCargo$Reader", "unit", "()Z"⟩ ∈ gT := gT_S 11 (q := (⟨"SoupCargo$Reader", "unit", "()Z"⟩, 10)) (by decide +kernel)
theorem wm_s12 : Cond.selects "SoupCargo$Reader" ⟨"SoupCargo$Reader", "numberHere", "()I"⟩ ⟨"SoupCargo$Reader", "numberHere", "()I"⟩ ∈ gT := gT_S 12 (q := (⟨"SoupCargo$Reader", "numberHere", "()I"⟩, 10)) (by decide +kernel)
theorem wm_s13 : Cond.selects "SoupCargo$Reader" ⟨"SoupCargo$Reader", "parts", "()Z"⟩ ⟨"SoupCargo$Reader", "parts", "()Z"⟩ ∈ gT := gT_S 13 (q := (⟨"SoupCargo$Reader", "parts", "()Z"⟩, 10)) (by decide +kernel)
theorem wm_s14 : Cond.selects "SoupCargo$Reader" ⟨"SoupCargo$Reader", "take", "(I)Z"⟩ ⟨"SoupCargo$Reader", "take", "(I)Z"⟩ ∈ gT := gT_S 14 (q := (⟨"SoupCargo$Reader", "take", "(I)Z"⟩, 10)) (by decide +kernel)
theorem wm_s15 : Cond.selects "SoupCargo$Reader" ⟨"SoupCargo$Reader", "personPart", "(I)Z"⟩ ⟨"SoupCargo$Reader", "personPart", "(I)Z"⟩ ∈ gT := gT_S 15 (q := (⟨"SoupCargo$Reader", "personPart", "(I)Z"⟩, 10)) (by decide +kernel)
theorem wm_s16 : Cond.selects "SoupCargo$Reader" ⟨"SoupCargo$Reader", "claims", "(I)Z"⟩ ⟨"SoupCargo$Reader", "claims", "(I)Z"⟩ ∈ gT := gT_S 16 (q := (⟨"SoupCargo$Reader", "claims", "(I)Z"⟩, 10)) (by decide +kernel)
theorem wm_s17 : Cond.selects "SoupCargo$Reader" ⟨"SoupCargo$Reader", "claim", "(I)Z"⟩ ⟨"SoupCargo$Reader", "claim", "(I)Z"⟩ ∈ gT := gT_S 17 (q := (⟨"SoupCargo$Reader", "claim", "(I)Z"⟩, 10)) (by decide +kernel)
theorem wm_s18 : Cond.selects "SoupCargo$Reader" ⟨"SoupCargo$Reader", "opened", "(I)Z"⟩ ⟨"SoupCargo$Reader", "opened", "(I)Z"⟩ ∈ gT := gT_S 18 (q := (⟨"SoupCargo$Reader", "opened", "(I)Z"⟩, 10)) (by decide +kernel)
theorem wm_s19 : Cond.selects "SoupCargo$Stacks" ⟨"SoupCargo$Stacks", "pour", "(II)V"⟩ ⟨"SoupCargo$Stacks", "pour", "(II)V"⟩ ∈ gT := gT_S 19 (q := (⟨"SoupCargo$Stacks", "pour", "(II)V"⟩, 8)) (by decide +kernel)
theorem wm_s20 : Cond.selects "SoupCargo$Stacks" ⟨"SoupCargo$Stacks", "isLit", "(LSoupCargo$Laws;II)Z"⟩ ⟨"SoupCargo$Stacks", "isLit", "(LSoupCargo$Laws;II)Z"⟩ ∈ gT := gT_S 20 (q := (⟨"SoupCargo$Stacks", "isLit", "(LSoupCargo$Laws;II)Z"⟩, 8)) (by decide +kernel)
theorem wm_s21 : Cond.selects "SoupCargo$Words" ⟨"SoupCargo$Words", "work", "(II[I)I"⟩ ⟨"SoupCargo$Words", "work", "(II[I)I"⟩ ∈ gT := gT_S 21 (q := (⟨"SoupCargo$Words", "work", "(II[I)I"⟩, 8)) (by decide +kernel)
theorem wm_s22 : Cond.selects "SoupCargo$Ship" ⟨"SoupCargo$Ship", "leanNow", "()I"⟩ ⟨"SoupCargo$Ship", "leanNow", "()I"⟩ ∈ gT := gT_S 22 (q := (⟨"SoupCargo$Ship", "leanNow", "()I"⟩, 7)) (by decide +kernel)
theorem wm_s23 : Cond.selects "SoupCargo$Ship" ⟨"SoupCargo$Ship", "heft", "(I)I"⟩ ⟨"SoupCargo$Ship", "heft", "(I)I"⟩ ∈ gT := gT_S 23 (q := (⟨"SoupCargo$Ship", "heft", "(I)I"⟩, 7)) (by decide +kernel)
theorem wm_s24 : Cond.selects "SoupCargo$Ship" ⟨"SoupCargo$Ship", "roll", "(I)I"⟩ ⟨"SoupCargo$Ship", "roll", "(I)I"⟩ ∈ gT := gT_S 24 (q := (⟨"SoupCargo$Ship", "roll", "(I)I"⟩, 7)) (by decide +kernel)
theorem wm_s25 : Cond.selects "SoupCargo$Ship" ⟨"SoupCargo$Ship", "flow", "()V"⟩ ⟨"SoupCargo$Ship", "flow", "()V"⟩ ∈ gT := gT_S 25 (q := (⟨"SoupCargo$Ship", "flow", "()V"⟩, 7)) (by decide +kernel)
theorem wm_s26 : Cond.selects "SoupCargo$Ship" ⟨"SoupCargo$Ship", "flowOver", "(II)V"⟩ ⟨"SoupCargo$Ship", "flowOver", "(II)V"⟩ ∈ gT := gT_S 26 (q := (⟨"SoupCargo$Ship", "flowOver", "(II)V"⟩, 7)) (by decide +kernel)
theorem wm_s27 : Cond.selects "SoupCargo$Places" ⟨"SoupCargo$Places", "findNeeded", "(LSoupCargo$Stacks;I)V"⟩ ⟨"SoupCargo$Places", "findNeeded", "(LSoupCargo$Stacks;I)V"⟩ ∈ gT := gT_S 27 (q := (⟨"SoupCargo$Places", "findNeeded", "(LSoupCargo$Stacks;I)V"⟩, 2)) (by decide +kernel)
theorem wm_s28 : Cond.selects "SoupCargo$Places" ⟨"SoupCargo$Places", "nearTo", "(II)I"⟩ ⟨"SoupCargo$Places", "nearTo", "(II)I"⟩ ∈ gT := gT_S 28 (q := (⟨"SoupCargo$Places", "nearTo", "(II)I"⟩, 2)) (by decide +kernel)
theorem wm_s29 : Cond.selects "SoupCargo$Places" ⟨"SoupCargo$Places", "isFair", "(I)Z"⟩ ⟨"SoupCargo$Places", "isFair", "(I)Z"⟩ ∈ gT := gT_S 29 (q := (⟨"SoupCargo$Places", "isFair", "(I)Z"⟩, 2)) (by decide +kernel)
theorem wm_s30 : Cond.selects "SoupCargo$Code" ⟨"SoupCargo$Code", "findWaysOf", "(II)V"⟩ ⟨"SoupCargo$Code", "findWaysOf", "(II)V"⟩ ∈ gT := gT_S 30 (q := (⟨"SoupCargo$Code", "findWaysOf", "(II)V"⟩, 5)) (by decide +kernel)
theorem wm_s31 : Cond.selects "SoupCargo" ⟨"SoupCargo", "nearestPort", "()I"⟩ ⟨"SoupCargo", "nearestPort", "()I"⟩ ∈ gT := gT_S 31 (q := (⟨"SoupCargo", "nearestPort", "()I"⟩, 14)) (by decide +kernel)
theorem wm_s32 : Cond.selects "SoupCargo" ⟨"SoupCargo", "staysTill", "(I)Z"⟩ ⟨"SoupCargo", "staysTill", "(I)Z"⟩ ∈ gT := gT_S 32 (q := (⟨"SoupCargo", "staysTill", "(I)Z"⟩, 14)) (by decide +kernel)
theorem wm_s33 : Cond.selects "SoupCargoModel" ⟨"SoupCargoModel", "isIn", "(III)Z"⟩ ⟨"SoupCargoModel", "isIn", "(III)Z"⟩ ∈ gT := gT_S 33 (q := (⟨"SoupCargoModel", "isIn", "(III)Z"⟩, 63)) (by decide +kernel)
theorem wm_s34 : Cond.selects "SoupCargoModel" ⟨"SoupCargoModel", "heapAt", "(III)I"⟩ ⟨"SoupCargoModel", "heapAt", "(III)I"⟩ ∈ gT := gT_S 34 (q := (⟨"SoupCargoModel", "heapAt", "(III)I"⟩, 63)) (by decide +kernel)
theorem wm_s35 : Cond.selects "SoupCargoModel" ⟨"SoupCargoModel", "holdAt", "(III)I"⟩ ⟨"SoupCargoModel", "holdAt", "(III)I"⟩ ∈ gT := gT_S 35 (q := (⟨"SoupCargoModel", "holdAt", "(III)I"⟩, 63)) (by decide +kernel)
theorem wm_s36 : Cond.selects "SoupCargoModel" ⟨"SoupCargoModel", "wetOf", "(II)I"⟩ ⟨"SoupCargoModel", "wetOf", "(II)I"⟩ ∈ gT := gT_S 36 (q := (⟨"SoupCargoModel", "wetOf", "(II)I"⟩, 63)) (by decide +kernel)
theorem wm_s37 : Cond.selects "SoupCargoModel" ⟨"SoupCargoModel", "puts", "(I)V"⟩ ⟨"SoupCargoModel", "puts", "(I)V"⟩ ∈ gT := gT_S 37 (q := (⟨"SoupCargoModel", "puts", "(I)V"⟩, 63)) (by decide +kernel)
theorem wm_s38 : Cond.selects "SoupCargoModel" ⟨"SoupCargoModel", "takesText", "(I)I"⟩ ⟨"SoupCargoModel", "takesText", "(I)I"⟩ ∈ gT := gT_S 38 (q := (⟨"SoupCargoModel", "takesText", "(I)I"⟩, 63)) (by decide +kernel)
theorem wm_s39 : Cond.selects "SoupCargoModel" ⟨"SoupCargoModel", "readText", "()I"⟩ ⟨"SoupCargoModel", "readText", "()I"⟩ ∈ gT := gT_S 39 (q := (⟨"SoupCargoModel", "readText", "()I"⟩, 63)) (by decide +kernel)
theorem wm_s40 : Cond.selects "SoupCargoModel" ⟨"SoupCargoModel", "reads", "()V"⟩ ⟨"SoupCargoModel", "reads", "()V"⟩ ∈ gT := gT_S 40 (q := (⟨"SoupCargoModel", "reads", "()V"⟩, 63)) (by decide +kernel)
theorem wm_s41 : Cond.selects "SoupCargoModel" ⟨"SoupCargoModel", "raw", "(I)I"⟩ ⟨"SoupCargoModel", "raw", "(I)I"⟩ ∈ gT := gT_S 41 (q := (⟨"SoupCargoModel", "raw", "(I)I"⟩, 63)) (by decide +kernel)
theorem wm_s42 : Cond.selects "SoupCargoModel" ⟨"SoupCargoModel", "isLetter", "(I)Z"⟩ ⟨"SoupCargoModel", "isLetter", "(I)Z"⟩ ∈ gT := gT_S 42 (q := (⟨"SoupCargoModel", "isLetter", "(I)Z"⟩, 63)) (by decide +kernel)
theorem wm_s43 : Cond.selects "SoupCargoModel" ⟨"SoupCargoModel", "wordAt", "(II)I"⟩ ⟨"SoupCargoModel", "wordAt", "(II)I"⟩ ∈ gT := gT_S 43 (q := (⟨"SoupCargoModel", "wordAt", "(II)I"⟩, 63)) (by decide +kernel)
theorem wm_s44 : Cond.selects "SoupCargoModel" ⟨"SoupCargoModel", "isDigit", "(I)Z"⟩ ⟨"SoupCargoModel", "isDigit", "(I)Z"⟩ ∈ gT := gT_S 44 (q := (⟨"SoupCargoModel", "isDigit", "(I)Z"⟩, 63)) (by decide +kernel)
theorem wm_s45 : Cond.selects "SoupCargoModel" ⟨"SoupCargoModel", "isMarkSign", "(I)Z"⟩ ⟨"SoupCargoModel", "isMarkSign", "(I)Z"⟩ ∈ gT := gT_S 45 (q := (⟨"SoupCargoModel", "isMarkSign", "(I)Z"⟩, 63)) (by decide +kernel)
theorem wm_s46 : Cond.selects "SoupCargoModel" ⟨"SoupCargoModel", "isBegin", "()Z"⟩ ⟨"SoupCargoModel", "isBegin", "()Z"⟩ ∈ gT := gT_S 46 (q := (⟨"SoupCargoModel", "isBegin", "()Z"⟩, 63)) (by decide +kernel)
theorem wm_s47 : Cond.selects "SoupCargoModel" ⟨"SoupCargoModel", "fails", "(I)I"⟩ ⟨"SoupCargoModel", "fails", "(I)I"⟩ ∈ gT := gT_S 47 (q := (⟨"SoupCargoModel", "fails", "(I)I"⟩, 63)) (by decide +kernel)
theorem wm_s48 : Cond.selects "SoupCargoModel" ⟨"SoupCargoModel", "readLine", "(I)I"⟩ ⟨"SoupCargoModel", "readLine", "(I)I"⟩ ∈ gT := gT_S 48 (q := (⟨"SoupCargoModel", "readLine", "(I)I"⟩, 63)) (by decide +kernel)
theorem wm_s49 : Cond.selects "SoupCargoModel" ⟨"SoupCargoModel", "readSum", "()I"⟩ ⟨"SoupCargoModel", "readSum", "()I"⟩ ∈ gT := gT_S 49 (q := (⟨"SoupCargoModel", "readSum", "()I"⟩, 63)) (by decide +kernel)
theorem wm_s50 : Cond.selects "SoupCargoModel" ⟨"SoupCargoModel", "readProduct", "()I"⟩ ⟨"SoupCargoModel", "readProduct", "()I"⟩ ∈ gT := gT_S 50 (q := (⟨"SoupCargoModel", "readProduct", "()I"⟩, 63)) (by decide +kernel)
theorem wm_s51 : Cond.selects "SoupCargoModel" ⟨"SoupCargoModel", "readUnit", "()I"⟩ ⟨"SoupCargoModel", "readUnit", "()I"⟩ ∈ gT := gT_S 51 (q := (⟨"SoupCargoModel", "readUnit", "()I"⟩, 63)) (by decide +kernel)
theorem wm_s52 : Cond.selects "SoupCargoModel" ⟨"SoupCargoModel", "isAsking", "()Z"⟩ ⟨"SoupCargoModel", "isAsking", "()Z"⟩ ∈ gT := gT_S 52 (q := (⟨"SoupCargoModel", "isAsking", "()Z"⟩, 63)) (by decide +kernel)
theorem wm_s53 : Cond.selects "SoupCargoModel" ⟨"SoupCargoModel", "emits", "(II)V"⟩ ⟨"SoupCargoModel", "emits", "(II)V"⟩ ∈ gT := gT_S 53 (q := (⟨"SoupCargoModel", "emits", "(II)V"⟩, 63)) (by decide +kernel)
theorem wm_s54 : Cond.selects "SoupCargoModel" ⟨"SoupCargoModel", "isSign", "(I)Z"⟩ ⟨"SoupCargoModel", "isSign", "(I)Z"⟩ ∈ gT := gT_S 54 (q := (⟨"SoupCargoModel", "isSign", "(I)Z"⟩, 63)) (by decide +kernel)
theorem wm_s55 : Cond.selects "SoupCargoModel" ⟨"SoupCargoModel", "readWho", "(I)I"⟩ ⟨"SoupCargoModel", "readWho", "(I)I"⟩ ∈ gT := gT_S 55 (q := (⟨"SoupCargoModel", "readWho", "(I)I"⟩, 63)) (by decide +kernel)
theorem wm_s56 : Cond.selects "SoupCargoModel" ⟨"SoupCargoModel", "isWord", "(I)Z"⟩ ⟨"SoupCargoModel", "isWord", "(I)Z"⟩ ∈ gT := gT_S 56 (q := (⟨"SoupCargoModel", "isWord", "(I)Z"⟩, 63)) (by decide +kernel)
theorem wm_s57 : Cond.selects "SoupCargoModel" ⟨"SoupCargoModel", "readAny", "()I"⟩ ⟨"SoupCargoModel", "readAny", "()I"⟩ ∈ gT := gT_S 57 (q := (⟨"SoupCargoModel", "readAny", "()I"⟩, 63)) (by decide +kernel)
theorem wm_s58 : Cond.selects "SoupCargoModel" ⟨"SoupCargoModel", "waits", "(I)V"⟩ ⟨"SoupCargoModel", "waits", "(I)V"⟩ ∈ gT := gT_S 58 (q := (⟨"SoupCargoModel", "waits", "(I)V"⟩, 63)) (by decide +kernel)
theorem wm_s59 : Cond.selects "SoupCargoModel" ⟨"SoupCargoModel", "readCompared", "()I"⟩ ⟨"SoupCargoModel", "readCompared", "()I"⟩ ∈ gT := gT_S 59 (q := (⟨"SoupCargoModel", "readCompared", "()I"⟩, 63)) (by decide +kernel)
theorem wm_s60 : Cond.selects "SoupCargoModel" ⟨"SoupCargoModel", "settles", "(I)V"⟩ ⟨"SoupCargoModel", "settles", "(I)V"⟩ ∈ gT := gT_S 60 (q := (⟨"SoupCargoModel", "settles", "(I)V"⟩, 63)) (by decide +kernel)
theorem wm_s61 : Cond.selects "SoupCargoModel" ⟨"SoupCargoModel", "takesHeap", "(I)V"⟩ ⟨"SoupCargoModel", "takesHeap", "(I)V"⟩ ∈ gT := gT_S 61 (q := (⟨"SoupCargoModel", "takesHeap", "(I)V"⟩, 63)) (by decide +kernel)
theorem wm_s62 : Cond.selects "SoupCargoModel" ⟨"SoupCargoModel", "takesHour", "(IIII)V"⟩ ⟨"SoupCargoModel", "takesHour", "(IIII)V"⟩ ∈ gT := gT_S 62 (q := (⟨"SoupCargoModel", "takesHour", "(IIII)V"⟩, 63)) (by decide +kernel)
theorem wm_s63 : Cond.selects "SoupCargoModel" ⟨"SoupCargoModel", "heapHeight", "(I)I"⟩ ⟨"SoupCargoModel", "heapHeight", "(I)I"⟩ ∈ gT := gT_S 63 (q := (⟨"SoupCargoModel", "heapHeight", "(I)I"⟩, 63)) (by decide +kernel)
theorem wm_s64 : Cond.selects "SoupCargoModel" ⟨"SoupCargoModel", "takesShip", "(II)V"⟩ ⟨"SoupCargoModel", "takesShip", "(II)V"⟩ ∈ gT := gT_S 64 (q := (⟨"SoupCargoModel", "takesShip", "(II)V"⟩, 63)) (by decide +kernel)
theorem wm_s65 : Cond.selects "SoupCargoModel" ⟨"SoupCargoModel", "lawOf", "(I)I"⟩ ⟨"SoupCargoModel", "lawOf", "(I)I"⟩ ∈ gT := gT_S 65 (q := (⟨"SoupCargoModel", "lawOf", "(I)I"⟩, 63)) (by decide +kernel)
theorem wm_s66 : Cond.selects "SoupCargoModel" ⟨"SoupCargoModel", "worth", "(III)I"⟩ ⟨"SoupCargoModel", "worth", "(III)I"⟩ ∈ gT := gT_S 66 (q := (⟨"SoupCargoModel", "worth", "(III)I"⟩, 63)) (by decide +kernel)
theorem wm_s67 : Cond.selects "SoupCargoModel" ⟨"SoupCargoModel", "twoOf", "(III)I"⟩ ⟨"SoupCargoModel", "twoOf", "(III)I"⟩ ∈ gT := gT_S 67 (q := (⟨"SoupCargoModel", "twoOf", "(III)I"⟩, 63)) (by decide +kernel)
theorem wm_s68 : Cond.selects "SoupCargoModel" ⟨"SoupCargoModel", "heapHour", "()V"⟩ ⟨"SoupCargoModel", "heapHour", "()V"⟩ ∈ gT := gT_S 68 (q := (⟨"SoupCargoModel", "heapHour", "()V"⟩, 63)) (by decide +kernel)
theorem wm_s69 : Cond.selects "SoupCargoModel" ⟨"SoupCargoModel", "more", "(II)I"⟩ ⟨"SoupCargoModel", "more", "(II)I"⟩ ∈ gT := gT_S 69 (q := (⟨"SoupCargoModel", "more", "(II)I"⟩, 63)) (by decide +kernel)
theorem wm_s70 : Cond.selects "SoupCargoModel" ⟨"SoupCargoModel", "cut", "(II)I"⟩ ⟨"SoupCargoModel", "cut", "(II)I"⟩ ∈ gT := gT_S 70 (q := (⟨"SoupCargoModel", "cut", "(II)I"⟩, 63)) (by decide +kernel)
theorem wm_s71 : Cond.selects "SoupCargoModel" ⟨"SoupCargoModel", "shipHour", "(II)V"⟩ ⟨"SoupCargoModel", "shipHour", "(II)V"⟩ ∈ gT := gT_S 71 (q := (⟨"SoupCargoModel", "shipHour", "(II)V"⟩, 63)) (by decide +kernel)
theorem wm_s72 : Cond.selects "SoupCargoModel" ⟨"SoupCargoModel", "shakes", "(II)V"⟩ ⟨"SoupCargoModel", "shakes", "(II)V"⟩ ∈ gT := gT_S 72 (q := (⟨"SoupCargoModel", "shakes", "(II)V"⟩, 63)) (by decide +kernel)
theorem wm_s73 : Cond.selects "SoupCargoModel" ⟨"SoupCargoModel", "shipWater", "(II)V"⟩ ⟨"SoupCargoModel", "shipWater", "(II)V"⟩ ∈ gT := gT_S 73 (q := (⟨"SoupCargoModel", "shipWater", "(II)V"⟩, 63)) (by decide +kernel)
theorem wm_s74 : Cond.selects "SoupCargoModel" ⟨"SoupCargoModel", "momentOf", "(I)I"⟩ ⟨"SoupCargoModel", "momentOf", "(I)I"⟩ ∈ gT := gT_S 74 (q := (⟨"SoupCargoModel", "momentOf", "(I)I"⟩, 63)) (by decide +kernel)
theorem wm_s75 : Cond.selects "SoupCargoModel" ⟨"SoupCargoModel", "columnArm", "(I)I"⟩ ⟨"SoupCargoModel", "columnArm", "(I)I"⟩ ∈ gT := gT_S 75 (q := (⟨"SoupCargoModel", "columnArm", "(I)I"⟩, 63)) (by decide +kernel)
theorem wm_s76 : Cond.selects "SoupCargoModel" ⟨"SoupCargoModel", "weightOf", "(I)I"⟩ ⟨"SoupCargoModel", "weightOf", "(I)I"⟩ ∈ gT := gT_S 76 (q := (⟨"SoupCargoModel", "weightOf", "(I)I"⟩, 63)) (by decide +kernel)
theorem wm_s77 : Cond.selects "SoupCargoModel" ⟨"SoupCargoModel", "leanOf", "(II)I"⟩ ⟨"SoupCargoModel", "leanOf", "(II)I"⟩ ∈ gT := gT_S 77 (q := (⟨"SoupCargoModel", "leanOf", "(II)I"⟩, 63)) (by decide +kernel)
theorem wm_s78 : Cond.selects "SoupCargoModel" ⟨"SoupCargoModel", "armAt", "(I)I"⟩ ⟨"SoupCargoModel", "armAt", "(I)I"⟩ ∈ gT := gT_S 78 (q := (⟨"SoupCargoModel", "armAt", "(I)I"⟩, 63)) (by decide +kernel)
theorem wm_s79 : Cond.selects "SoupCargoModel" ⟨"SoupCargoModel", "flows", "(IIIII)V"⟩ ⟨"SoupCargoModel", "flows", "(IIIII)V"⟩ ∈ gT := gT_S 79 (q := (⟨"SoupCargoModel", "flows", "(IIIII)V"⟩, 63)) (by decide +kernel)
theorem wm_s80 : Cond.selects "SoupCargoModel" ⟨"SoupCargoModel", "height", "(I)I"⟩ ⟨"SoupCargoModel", "height", "(I)I"⟩ ∈ gT := gT_S 80 (q := (⟨"SoupCargoModel", "height", "(I)I"⟩, 63)) (by decide +kernel)
theorem wm_s81 : Cond.selects "SoupCargoModel" ⟨"SoupCargoModel", "loaded", "()I"⟩ ⟨"SoupCargoModel", "loaded", "()I"⟩ ∈ gT := gT_S 81 (q := (⟨"SoupCargoModel", "loaded", "()I"⟩, 63)) (by decide +kernel)
theorem wm_s82 : Cond.selects "SoupCargoModel" ⟨"SoupCargoModel", "worstKept", "(I)I"⟩ ⟨"SoupCargoModel", "worstKept", "(I)I"⟩ ∈ gT := gT_S 82 (q := (⟨"SoupCargoModel", "worstKept", "(I)I"⟩, 63)) (by decide +kernel)
theorem wm_s83 : Cond.selects "SoupCargoModel" ⟨"SoupCargoModel", "worstOf", "(I)I"⟩ ⟨"SoupCargoModel", "worstOf", "(I)I"⟩ ∈ gT := gT_S 83 (q := (⟨"SoupCargoModel", "worstOf", "(I)I"⟩, 63)) (by decide +kernel)
theorem wm_s84 : Cond.selects "SoupCargoModel" ⟨"SoupCargoModel", "isHour", "(I)Z"⟩ ⟨"SoupCargoModel", "isHour", "(I)Z"⟩ ∈ gT := gT_S 84 (q := (⟨"SoupCargoModel", "isHour", "(I)Z"⟩, 63)) (by decide +kernel)
theorem wm_s85 : Cond.selects "SoupCargoModel" ⟨"SoupCargoModel", "endOf", "(IIZ)I"⟩ ⟨"SoupCargoModel", "endOf", "(IIZ)I"⟩ ∈ gT := gT_S 85 (q := (⟨"SoupCargoModel", "endOf", "(IIZ)I"⟩, 63)) (by decide +kernel)
theorem wm_s86 : Cond.selects "SoupCargoModel" ⟨"SoupCargoModel", "distance", "(II)I"⟩ ⟨"SoupCargoModel", "distance", "(II)I"⟩ ∈ gT := gT_S 86 (q := (⟨"SoupCargoModel", "distance", "(II)I"⟩, 63)) (by decide +kernel)
theorem wm_s87 : Cond.selects "SoupCargoModel" ⟨"SoupCargoModel", "apart", "(II)I"⟩ ⟨"SoupCargoModel", "apart", "(II)I"⟩ ∈ gT := gT_S 87 (q := (⟨"SoupCargoModel", "apart", "(II)I"⟩, 63)) (by decide +kernel)
theorem wm_s88 : Cond.selects "SoupCargoModel" ⟨"SoupCargoModel", "meanOf", "(IZ)I"⟩ ⟨"SoupCargoModel", "meanOf", "(IZ)I"⟩ ∈ gT := gT_S 88 (q := (⟨"SoupCargoModel", "meanOf", "(IZ)I"⟩, 63)) (by decide +kernel)
theorem wm_s89 : Cond.selects "SoupCargoModel" ⟨"SoupCargoModel", "ones", "(I)I"⟩ ⟨"SoupCargoModel", "ones", "(I)I"⟩ ∈ gT := gT_S 89 (q := (⟨"SoupCargoModel", "ones", "(I)I"⟩, 63)) (by decide +kernel)
theorem wm_s90 : Cond.selects "SoupCargoModel" ⟨"SoupCargoModel", "isFair", "(I)Z"⟩ ⟨"SoupCargoModel", "isFair", "(I)Z"⟩ ∈ gT := gT_S 90 (q := (⟨"SoupCargoModel", "isFair", "(I)Z"⟩, 63)) (by decide +kernel)
theorem wm_s91 : Cond.selects "SoupCargoModel" ⟨"SoupCargoModel", "isSo", "(II)Z"⟩ ⟨"SoupCargoModel", "isSo", "(II)Z"⟩ ∈ gT := gT_S 91 (q := (⟨"SoupCargoModel", "isSo", "(II)Z"⟩, 63)) (by decide +kernel)
theorem wm_s92 : Cond.selects "SoupCargoModel" ⟨"SoupCargoModel", "lasts", "(I)Z"⟩ ⟨"SoupCargoModel", "lasts", "(I)Z"⟩ ∈ gT := gT_S 92 (q := (⟨"SoupCargoModel", "lasts", "(I)Z"⟩, 63)) (by decide +kernel)
theorem wm_s93 : Cond.selects "SoupCargoModel" ⟨"SoupCargoModel", "worstHarbour", "()I"⟩ ⟨"SoupCargoModel", "worstHarbour", "()I"⟩ ∈ gT := gT_S 93 (q := (⟨"SoupCargoModel", "worstHarbour", "()I"⟩, 63)) (by decide +kernel)
theorem wm_s94 : Cond.selects "SoupCargoModel" ⟨"SoupCargoModel", "countOf", "(IIIZ)I"⟩ ⟨"SoupCargoModel", "countOf", "(IIIZ)I"⟩ ∈ gT := gT_S 94 (q := (⟨"SoupCargoModel", "countOf", "(IIIZ)I"⟩, 63)) (by decide +kernel)
set_option maxRecDepth 20000 in
theorem wm_t1 : Cond.initialized "SoupCargo" ∈ gT := gT_1 1 rfl rfl
set_option maxRecDepth 20000 in
theorem wm_t2 : Cond.initialized "SoupCargo$Sky" ∈ gT := gT_1 2 rfl rfl
set_option maxRecDepth 20000 in
theorem wm_t3 : Cond.initialized "SoupCargo$Stacks" ∈ gT := gT_1 3 rfl rfl
set_option maxRecDepth 20000 in
theorem wm_t4 : Cond.initialized "java/lang/Math" ∈ gT := gT_1 4 rfl rfl
set_option maxRecDepth 20000 in
theorem wm_t5 : Cond.initialized "SoupCargo$Ship" ∈ gT := gT_1 5 rfl rfl
set_option maxRecDepth 20000 in
theorem wm_t6 : Cond.initialized "SoupCargo$Reader" ∈ gT := gT_1 6 rfl rfl
set_option maxRecDepth 20000 in
theorem wm_t7 : Cond.initialized "SoupCargo$Words" ∈ gT := gT_1 7 rfl rfl
set_option maxRecDepth 20000 in
theorem wm_t8 : Cond.initialized "SoupCargo$Laws" ∈ gT := gT_1 8 rfl rfl
set_option maxRecDepth 20000 in
theorem wm_t9 : Cond.initialized "SoupCargo$Code" ∈ gT := gT_1 9 rfl rfl
set_option maxRecDepth 20000 in
theorem wm_t10 : Cond.initialized "SoupCargo$Cans" ∈ gT := gT_1 10 rfl rfl
set_option maxRecDepth 20000 in
theorem wm_t11 : Cond.initialized "SoupCargo$Places" ∈ gT := gT_1 11 rfl rfl
set_option maxRecDepth 20000 in
theorem wm_t12 : Cond.initialized "SoupCargo$Ships" ∈ gT := gT_1 12 rfl rfl
set_option maxRecDepth 20000 in
theorem wm_t13 : Cond.initialized "SoupCargoModel" ∈ gT := gT_1 13 rfl rfl
set_option maxRecDepth 20000 in
theorem wm_t14 : Cond.initialized "java/lang/String" ∈ gT := gT_1 14 rfl rfl
set_option maxRecDepth 20000 in
theorem wm_t15 : Cond.initialized "java/lang/StringLatin1" ∈ gT := gT_1 15 rfl rfl
set_option maxRecDepth 20000 in
theorem wm_t16 : Cond.initialized "jdk/internal/util/Preconditions" ∈ gT := gT_1 16 rfl rfl
set_option maxRecDepth 20000 in
theorem wm_t19 : Cond.initialized "java/lang/Integer" ∈ gT := gT_1 19 rfl rfl
set_option maxRecDepth 20000 in
theorem wm_t20 : Cond.initialized "java/lang/System" ∈ gT := gT_1 20 rfl rfl
set_option maxRecDepth 20000 in
theorem wm_t21 : Cond.classLink "SoupCargoLaw" 7 "SoupCargo" ∈ gT := gT_1 21 rfl rfl
set_option maxRecDepth 20000 in
theorem wm_t22 : Cond.instantiable "SoupCargo" 14 ∈ gT := gT_1 22 rfl rfl
set_option maxRecDepth 20000 in
theorem wm_t23 : Cond.methodLink "SoupCargoLaw" 9 ⟨"SoupCargo", "<init>", "()V"⟩ ∈ gT := gT_1 23 rfl rfl
set_option maxRecDepth 20000 in
theorem wm_t24 : Cond.instanceMethod ⟨"SoupCargo", "<init>", "()V"⟩ ∈ gT := gT_1 24 rfl rfl
set_option maxRecDepth 20000 in
theorem wm_t25 : Cond.code ⟨"SoupCargo", "<init>", "()V"⟩ prog_1_method_1_code 1 (Option.none : Option Jvm.ClassFile.FieldType) ∈ gT := gT_1 25 rfl rfl
set_option maxRecDepth 20000 in
theorem wm_t26 : Cond.methodLink "SoupCargo" 3 ⟨"java/lang/Object", "<init>", "()V"⟩ ∈ gT := gT_1 26 rfl rfl
set_option maxRecDepth 20000 in
theorem wm_t27 : Cond.instanceMethod ⟨"java/lang/Object", "<init>", "()V"⟩ ∈ gT := gT_1 27 rfl rfl
set_option maxRecDepth 20000 in
theorem wm_t28 : Cond.code ⟨"java/lang/Object", "<init>", "()V"⟩ object_method_1_code 1 (Option.none : Option Jvm.ClassFile.FieldType) ∈ gT := gT_1 28 rfl rfl
set_option maxRecDepth 20000 in
theorem wm_t29 : Cond.classLink "SoupCargo" 9 "SoupCargo$Sky" ∈ gT := gT_1 29 rfl rfl
set_option maxRecDepth 20000 in
theorem wm_t30 : Cond.instantiable "SoupCargo$Sky" 2 ∈ gT := gT_1 30 rfl rfl
set_option maxRecDepth 20000 in
theorem wm_t32 : Cond.instanceMethod ⟨"SoupCargo$Sky", "<init>", "()V"⟩ ∈ gT := gT_1 32 rfl rfl
set_option maxRecDepth 20000 in
theorem wm_t33 : Cond.code ⟨"SoupCargo$Sky", "<init>", "()V"⟩ prog_9_method_1_code 1 (Option.none : Option Jvm.ClassFile.FieldType) ∈ gT := gT_1 33 rfl rfl
set_option maxRecDepth 20000 in
theorem wm_t34 : Cond.methodLink "SoupCargo$Sky" 3 ⟨"java/lang/Object", "<init>", "()V"⟩ ∈ gT := gT_1 34 rfl rfl
set_option maxRecDepth 20000 in
theorem wm_t35 : Cond.fieldLink "SoupCargo$Sky" 11 "SoupCargo$Sky" "rains" "[I" ∈ gT := gT_1 35 rfl rfl
set_option maxRecDepth 20000 in
theorem wm_t36 : Cond.fieldLink "SoupCargo$Sky" 15 "SoupCargo$Sky" "swells" "[I" ∈ gT := gT_1 36 rfl rfl
set_option maxRecDepth 20000 in
theorem wm_t42 : Cond.arrayClass Jvm.ClassFile.FieldType.int ∈ gT := gT_1 42 rfl rfl
set_option maxRecDepth 20000 in
theorem wm_t43 : Cond.classLink "SoupCargo" 16 "SoupCargo$Stacks" ∈ gT := gT_1 43 rfl rfl
set_option maxRecDepth 20000 in
theorem wm_t44 : Cond.instantiable "SoupCargo$Stacks" 8 ∈ gT := gT_1 44 rfl rfl
set_option maxRecDepth 20000 in
theorem wm_t45 : Cond.methodLink "SoupCargo" 18 ⟨"SoupCargo$Stacks", "<init>", "(IIZ)V"⟩ ∈ gT := gT_1 45 rfl rfl
set_option maxRecDepth 20000 in
theorem wm_t46 : Cond.instanceMethod ⟨"SoupCargo$Stacks", "<init>", "(IIZ)V"⟩ ∈ gT := gT_1 46 rfl rfl
set_option maxRecDepth 20000 in
theorem wm_t47 : Cond.code ⟨"SoupCargo$Stacks", "<init>", "(IIZ)V"⟩ prog_10_method_1_code 5 (Option.none : Option Jvm.ClassFile.FieldType) ∈ gT := gT_1 47 rfl rfl
set_option maxRecDepth 20000 in
theorem wm_t48 : Cond.methodLink "SoupCargo$Stacks" 3 ⟨"java/lang/Object", "<init>", "()V"⟩ ∈ gT := gT_1 48 rfl rfl
set_option maxRecDepth 20000 in
theorem wm_t49 : Cond.methodLink "SoupCargo$Stacks" 22 ⟨"java/lang/Math", "max", "(II)I"⟩ ∈ gT := gT_1 49 rfl rfl
set_option maxRecDepth 20000 in
theorem wm_t50 : Cond.static ⟨"java/lang/Math", "max", "(II)I"⟩ ∈ gT := gT_1 50 rfl rfl
set_option maxRecDepth 20000 in
theorem wm_t51 : Cond.code ⟨"java/lang/Math", "max", "(II)I"⟩ prog_16_method_65_code 2 (Option.some Jvm.ClassFile.FieldType.int) ∈ gT := gT_1 51 rfl rfl
set_option maxRecDepth 20000 in
theorem wm_t52 : Cond.fieldLink "SoupCargo$Stacks" 9 "SoupCargo$Stacks" "columns" "I" ∈ gT := gT_1 52 rfl rfl
set_option maxRecDepth 20000 in
theorem wm_t53 : Cond.fieldLink "SoupCargo$Stacks" 15 "SoupCargo$Stacks" "layers" "I" ∈ gT := gT_1 53 rfl rfl
set_option maxRecDepth 20000 in
theorem wm_t54 : Cond.fieldLink "SoupCargo$Stacks" 18 "SoupCargo$Stacks" "underSky" "Z" ∈ gT := gT_1 54 rfl rfl
set_option maxRecDepth 20000 in
theorem wm_t55 : Cond.fieldLink "SoupCargo$Stacks" 28 "SoupCargo$Stacks" "ore" "[I" ∈ gT := gT_1 55 rfl rfl
set_option maxRecDepth 20000 in
theorem wm_t56 : Cond.fieldLink "SoupCargo$Places" 37 "SoupCargo$Stacks" "ore" "[I" ∈ gT := gT_1 56 rfl rfl
set_option maxRecDepth 20000 in
theorem wm_t57 : Cond.fieldLink "SoupCargo" 104 "SoupCargo$Stacks" "ore" "[I" ∈ gT := gT_1 57 rfl rfl
set_option maxRecDepth 20000 in
theorem wm_t58 : Cond.fieldLink "SoupCargo$Ship" 61 "SoupCargo$Stacks" "ore" "[I" ∈ gT := gT_1 58 rfl rfl
set_option maxRecDepth 20000 in
theorem wm_t59 : Cond.fieldLink "SoupCargo$Cans" 44 "SoupCargo$Stacks" "ore" "[I" ∈ gT := gT_1 59 rfl rfl
set_option maxRecDepth 20000 in
theorem wm_t60 : Cond.fieldLink "SoupCargo$Stacks" 32 "SoupCargo$Stacks" "water" "[I" ∈ gT := gT_1 60 rfl rfl
set_option maxRecDepth 20000 in
theorem wm_t61 : Cond.fieldLink "SoupCargo" 107 "SoupCargo$Stacks" "water" "[I" ∈ gT := gT_1 61 rfl rfl
set_option maxRecDepth 20000 in
theorem wm_t62 : Cond.fieldLink "SoupCargo$Ship" 71 "SoupCargo$Stacks" "water" "[I" ∈ gT := gT_1 62 rfl rfl
set_option maxRecDepth 20000 in
theorem wm_t63 : Cond.fieldLink "SoupCargo$Stacks" 35 "SoupCargo$Stacks" "shaken" "[I" ∈ gT := gT_1 63 rfl rfl
set_option maxRecDepth 20000 in
theorem wm_t64 : Cond.fieldLink "SoupCargo" 121 "SoupCargo$Stacks" "shaken" "[I" ∈ gT := gT_1 64 rfl rfl
set_option maxRecDepth 20000 in
theorem wm_t65 : Cond.fieldLink "SoupCargo$Stacks" 38 "SoupCargo$Stacks" "soup" "[I" ∈ gT := gT_1 65 rfl rfl
set_option maxRecDepth 20000 in
theorem wm_t66 : Cond.fieldLink "SoupCargo" 124 "SoupCargo$Stacks" "soup" "[I" ∈ gT := gT_1 66 rfl rfl
set_option maxRecDepth 20000 in
theorem wm_t67 : Cond.fieldLink "SoupCargo$Stacks" 50 "SoupCargo$Stacks" "lost" "I" ∈ gT := gT_1 67 rfl rfl
set_option maxRecDepth 20000 in
theorem wm_t68 : Cond.fieldLink "SoupCargo" 222 "SoupCargo$Stacks" "lost" "I" ∈ gT := gT_1 68 rfl rfl
set_option maxRecDepth 20000 in
theorem wm_t86 : Cond.classLink "SoupCargo" 25 "SoupCargo$Ship" ∈ gT := gT_1 86 rfl rfl
set_option maxRecDepth 20000 in
theorem wm_t87 : Cond.instantiable "SoupCargo$Ship" 7 ∈ gT := gT_1 87 rfl rfl
set_option maxRecDepth 20000 in
theorem wm_t89 : Cond.instanceMethod ⟨"SoupCargo$Ship", "<init>", "()V"⟩ ∈ gT := gT_1 89 rfl rfl
set_option maxRecDepth 20000 in
theorem wm_t90 : Cond.code ⟨"SoupCargo$Ship", "<init>", "()V"⟩ prog_7_method_1_code 1 (Option.none : Option Jvm.ClassFile.FieldType) ∈ gT := gT_1 90 rfl rfl
set_option maxRecDepth 20000 in
theorem wm_t91 : Cond.methodLink "SoupCargo$Ship" 3 ⟨"java/lang/Object", "<init>", "()V"⟩ ∈ gT := gT_1 91 rfl rfl
set_option maxRecDepth 20000 in
theorem wm_t92 : Cond.classLink "SoupCargo$Ship" 9 "SoupCargo$Stacks" ∈ gT := gT_1 92 rfl rfl
set_option maxRecDepth 20000 in
theorem wm_t93 : Cond.methodLink "SoupCargo$Ship" 11 ⟨"SoupCargo$Stacks", "<init>", "(IIZ)V"⟩ ∈ gT := gT_1 93 rfl rfl
set_option maxRecDepth 20000 in
theorem wm_t94 : Cond.fieldLink "SoupCargo$Ship" 14 "SoupCargo$Ship" "holds" "LSoupCargo$Stacks;" ∈ gT := gT_1 94 rfl rfl
set_option maxRecDepth 20000 in
theorem wm_t95 : Cond.fieldLink "SoupCargo" 196 "SoupCargo$Ship" "holds" "LSoupCargo$Stacks;" ∈ gT := gT_1 95 rfl rfl
set_option maxRecDepth 20000 in
theorem wm_t96 : Cond.fieldLink "SoupCargo$Ship" 20 "SoupCargo$Ship" "righting" "[I" ∈ gT := gT_1 96 rfl rfl
set_option maxRecDepth 20000 in
theorem wm_t97 : Cond.fieldLink "SoupCargo$Ship" 24 "SoupCargo$Ship" "limit" "I" ∈ gT := gT_1 97 rfl rfl
set_option maxRecDepth 20000 in
theorem wm_t98 : Cond.fieldLink "SoupCargo$Ship" 41 "SoupCargo$Ship" "atSea" "Z" ∈ gT := gT_1 98 rfl rfl
set_option maxRecDepth 20000 in
theorem wm_t99 : Cond.fieldLink "SoupCargo" 193 "SoupCargo$Ship" "atSea" "Z" ∈ gT := gT_1 99 rfl rfl
set_option maxRecDepth 20000 in
theorem wm_t100 : Cond.fieldLink "SoupCargo$Ship" 45 "SoupCargo$Ship" "state" "I" ∈ gT := gT_1 100 rfl rfl
set_option maxRecDepth 20000 in
theorem wm_t101 : Cond.fieldLink "SoupCargo" 206 "SoupCargo$Ship" "state" "I" ∈ gT := gT_1 101 rfl rfl
set_option maxRecDepth 20000 in
theorem wm_t102 : Cond.fieldLink "SoupCargo$Ship" 48 "SoupCargo$Ship" "lean" "I" ∈ gT := gT_1 102 rfl rfl
set_option maxRecDepth 20000 in
theorem wm_t103 : Cond.fieldLink "SoupCargo" 216 "SoupCargo$Ship" "lean" "I" ∈ gT := gT_1 103 rfl rfl
set_option maxRecDepth 20000 in
theorem wm_t104 : Cond.fieldLink "SoupCargo$Ship" 28 "SoupCargo$Ship" "goneHour" "I" ∈ gT := gT_1 104 rfl rfl
set_option maxRecDepth 20000 in
theorem wm_t105 : Cond.fieldLink "SoupCargo" 219 "SoupCargo$Ship" "goneHour" "I" ∈ gT := gT_1 105 rfl rfl
set_option maxRecDepth 20000 in
theorem wm_t121 : Cond.classLink "SoupCargo" 35 "SoupCargo$Reader" ∈ gT := gT_1 121 rfl rfl
set_option maxRecDepth 20000 in
theorem wm_t122 : Cond.instantiable "SoupCargo$Reader" 10 ∈ gT := gT_1 122 rfl rfl
set_option maxRecDepth 20000 in
theorem wm_t124 : Cond.instanceMethod ⟨"SoupCargo$Reader", "<init>", "()V"⟩ ∈ gT := gT_1 124 rfl rfl
set_option maxRecDepth 20000 in
theorem wm_t125 : Cond.code ⟨"SoupCargo$Reader", "<init>", "()V"⟩ prog_6_method_1_code 1 (Option.none : Option Jvm.ClassFile.FieldType) ∈ gT := gT_1 125 rfl rfl
set_option maxRecDepth 20000 in
theorem wm_t126 : Cond.methodLink "SoupCargo$Reader" 3 ⟨"java/lang/Object", "<init>", "()V"⟩ ∈ gT := gT_1 126 rfl rfl
set_option maxRecDepth 20000 in
theorem wm_t127 : Cond.classLink "SoupCargo$Reader" 21 "SoupCargo$Words" ∈ gT := gT_1 127 rfl rfl
set_option maxRecDepth 20000 in
theorem wm_t128 : Cond.instantiable "SoupCargo$Words" 8 ∈ gT := gT_1 128 rfl rfl
set_option maxRecDepth 20000 in
theorem wm_t130 : Cond.instanceMethod ⟨"SoupCargo$Words", "<init>", "()V"⟩ ∈ gT := gT_1 130 rfl rfl
set_option maxRecDepth 20000 in
theorem wm_t131 : Cond.code ⟨"SoupCargo$Words", "<init>", "()V"⟩ prog_11_method_1_code 1 (Option.none : Option Jvm.ClassFile.FieldType) ∈ gT := gT_1 131 rfl rfl
set_option maxRecDepth 20000 in
theorem wm_t132 : Cond.methodLink "SoupCargo$Words" 3 ⟨"java/lang/Object", "<init>", "()V"⟩ ∈ gT := gT_1 132 rfl rfl
set_option maxRecDepth 20000 in
theorem wm_t133 : Cond.fieldLink "SoupCargo$Words" 30 "SoupCargo$Words" "lines" "I" ∈ gT := gT_1 133 rfl rfl
set_option maxRecDepth 20000 in
theorem wm_t134 : Cond.fieldLink "SoupCargo$Code" 28 "SoupCargo$Words" "lines" "I" ∈ gT := gT_1 134 rfl rfl
set_option maxRecDepth 20000 in
theorem wm_t135 : Cond.fieldLink "SoupCargo$Laws" 24 "SoupCargo$Words" "lines" "I" ∈ gT := gT_1 135 rfl rfl
set_option maxRecDepth 20000 in
theorem wm_t136 : Cond.fieldLink "SoupCargo" 149 "SoupCargo$Words" "lines" "I" ∈ gT := gT_1 136 rfl rfl
set_option maxRecDepth 20000 in
theorem wm_t137 : Cond.fieldLink "SoupCargo$Reader" 108 "SoupCargo$Words" "lines" "I" ∈ gT := gT_1 137 rfl rfl
set_option maxRecDepth 20000 in
theorem wm_t138 : Cond.fieldLink "SoupCargo$Words" 34 "SoupCargo$Words" "used" "I" ∈ gT := gT_1 138 rfl rfl
set_option maxRecDepth 20000 in
theorem wm_t139 : Cond.fieldLink "SoupCargo$Words" 9 "SoupCargo$Words" "steps" "[I" ∈ gT := gT_1 139 rfl rfl
set_option maxRecDepth 20000 in
theorem wm_t140 : Cond.fieldLink "SoupCargo$Words" 15 "SoupCargo$Words" "heads" "[I" ∈ gT := gT_1 140 rfl rfl
set_option maxRecDepth 20000 in
theorem wm_t141 : Cond.fieldLink "SoupCargo$Words" 18 "SoupCargo$Words" "persons" "[I" ∈ gT := gT_1 141 rfl rfl
set_option maxRecDepth 20000 in
theorem wm_t142 : Cond.fieldLink "SoupCargo$Words" 21 "SoupCargo$Words" "whens" "[I" ∈ gT := gT_1 142 rfl rfl
set_option maxRecDepth 20000 in
theorem wm_t143 : Cond.fieldLink "SoupCargo$Words" 24 "SoupCargo$Words" "ends" "[I" ∈ gT := gT_1 143 rfl rfl
set_option maxRecDepth 20000 in
theorem wm_t144 : Cond.fieldLink "SoupCargo$Words" 27 "SoupCargo$Words" "stack" "[I" ∈ gT := gT_1 144 rfl rfl
set_option maxRecDepth 20000 in
theorem wm_t162 : Cond.fieldLink "SoupCargo$Reader" 9 "SoupCargo$Reader" "tape" "[I" ∈ gT := gT_1 162 rfl rfl
set_option maxRecDepth 20000 in
theorem wm_t163 : Cond.fieldLink "SoupCargo$Reader" 32 "SoupCargo$Reader" "length" "I" ∈ gT := gT_1 163 rfl rfl
set_option maxRecDepth 20000 in
theorem wm_t164 : Cond.fieldLink "SoupCargo$Reader" 15 "SoupCargo$Reader" "kinds" "[I" ∈ gT := gT_1 164 rfl rfl
set_option maxRecDepth 20000 in
theorem wm_t165 : Cond.fieldLink "SoupCargo$Reader" 18 "SoupCargo$Reader" "places" "[I" ∈ gT := gT_1 165 rfl rfl
set_option maxRecDepth 20000 in
theorem wm_t166 : Cond.fieldLink "SoupCargo$Reader" 48 "SoupCargo$Reader" "current" "I" ∈ gT := gT_1 166 rfl rfl
set_option maxRecDepth 20000 in
theorem wm_t167 : Cond.fieldLink "SoupCargo$Reader" 51 "SoupCargo$Reader" "kind" "I" ∈ gT := gT_1 167 rfl rfl
set_option maxRecDepth 20000 in
theorem wm_t168 : Cond.fieldLink "SoupCargo$Reader" 35 "SoupCargo$Reader" "forLaws" "Z" ∈ gT := gT_1 168 rfl rfl
set_option maxRecDepth 20000 in
theorem wm_t169 : Cond.fieldLink "SoupCargo$Reader" 24 "SoupCargo$Reader" "into" "LSoupCargo$Words;" ∈ gT := gT_1 169 rfl rfl
set_option maxRecDepth 20000 in
theorem wm_t170 : Cond.fieldLink "SoupCargo$Reader" 39 "SoupCargo$Reader" "faultKind" "I" ∈ gT := gT_1 170 rfl rfl
set_option maxRecDepth 20000 in
theorem wm_t171 : Cond.fieldLink "SoupCargo" 159 "SoupCargo$Reader" "faultKind" "I" ∈ gT := gT_1 171 rfl rfl
set_option maxRecDepth 20000 in
theorem wm_t172 : Cond.fieldLink "SoupCargo$Reader" 28 "SoupCargo$Reader" "faultPlace" "I" ∈ gT := gT_1 172 rfl rfl
set_option maxRecDepth 20000 in
theorem wm_t173 : Cond.fieldLink "SoupCargo" 162 "SoupCargo$Reader" "faultPlace" "I" ∈ gT := gT_1 173 rfl rfl
set_option maxRecDepth 20000 in
theorem wm_t195 : Cond.classLink "SoupCargo" 42 "SoupCargo$Laws" ∈ gT := gT_1 195 rfl rfl
set_option maxRecDepth 20000 in
theorem wm_t196 : Cond.instantiable "SoupCargo$Laws" 3 ∈ gT := gT_1 196 rfl rfl
set_option maxRecDepth 20000 in
theorem wm_t198 : Cond.instanceMethod ⟨"SoupCargo$Laws", "<init>", "()V"⟩ ∈ gT := gT_1 198 rfl rfl
set_option maxRecDepth 20000 in
theorem wm_t199 : Cond.code ⟨"SoupCargo$Laws", "<init>", "()V"⟩ prog_4_method_1_code 1 (Option.none : Option Jvm.ClassFile.FieldType) ∈ gT := gT_1 199 rfl rfl
set_option maxRecDepth 20000 in
theorem wm_t200 : Cond.methodLink "SoupCargo$Laws" 1 ⟨"java/lang/Object", "<init>", "()V"⟩ ∈ gT := gT_1 200 rfl rfl
set_option maxRecDepth 20000 in
theorem wm_t201 : Cond.classLink "SoupCargo$Laws" 7 "SoupCargo$Words" ∈ gT := gT_1 201 rfl rfl
set_option maxRecDepth 20000 in
theorem wm_t203 : Cond.fieldLink "SoupCargo$Laws" 10 "SoupCargo$Laws" "words" "LSoupCargo$Words;" ∈ gT := gT_1 203 rfl rfl
set_option maxRecDepth 20000 in
theorem wm_t204 : Cond.fieldLink "SoupCargo" 141 "SoupCargo$Laws" "words" "LSoupCargo$Words;" ∈ gT := gT_1 204 rfl rfl
set_option maxRecDepth 20000 in
theorem wm_t205 : Cond.fieldLink "SoupCargo$Laws" 20 "SoupCargo$Laws" "oreSort" "I" ∈ gT := gT_1 205 rfl rfl
set_option maxRecDepth 20000 in
theorem wm_t206 : Cond.fieldLink "SoupCargo" 89 "SoupCargo$Laws" "oreSort" "I" ∈ gT := gT_1 206 rfl rfl
set_option maxRecDepth 20000 in
theorem wm_t207 : Cond.fieldLink "SoupCargo$Laws" 16 "SoupCargo$Laws" "values" "[I" ∈ gT := gT_1 207 rfl rfl
set_option maxRecDepth 20000 in
theorem wm_t215 : Cond.classLink "SoupCargo" 49 "SoupCargo$Code" ∈ gT := gT_1 215 rfl rfl
set_option maxRecDepth 20000 in
theorem wm_t216 : Cond.instantiable "SoupCargo$Code" 5 ∈ gT := gT_1 216 rfl rfl
set_option maxRecDepth 20000 in
theorem wm_t218 : Cond.instanceMethod ⟨"SoupCargo$Code", "<init>", "()V"⟩ ∈ gT := gT_1 218 rfl rfl
set_option maxRecDepth 20000 in
theorem wm_t219 : Cond.code ⟨"SoupCargo$Code", "<init>", "()V"⟩ prog_3_method_1_code 1 (Option.none : Option Jvm.ClassFile.FieldType) ∈ gT := gT_1 219 rfl rfl
set_option maxRecDepth 20000 in
theorem wm_t220 : Cond.methodLink "SoupCargo$Code" 3 ⟨"java/lang/Object", "<init>", "()V"⟩ ∈ gT := gT_1 220 rfl rfl
set_option maxRecDepth 20000 in
theorem wm_t221 : Cond.classLink "SoupCargo$Code" 9 "SoupCargo$Words" ∈ gT := gT_1 221 rfl rfl
set_option maxRecDepth 20000 in
theorem wm_t223 : Cond.fieldLink "SoupCargo$Code" 12 "SoupCargo$Code" "words" "LSoupCargo$Words;" ∈ gT := gT_1 223 rfl rfl
set_option maxRecDepth 20000 in
theorem wm_t224 : Cond.fieldLink "SoupCargo" 154 "SoupCargo$Code" "words" "LSoupCargo$Words;" ∈ gT := gT_1 224 rfl rfl
set_option maxRecDepth 20000 in
theorem wm_t225 : Cond.fieldLink "SoupCargo$Code" 43 "SoupCargo$Code" "waysKnown" "Z" ∈ gT := gT_1 225 rfl rfl
set_option maxRecDepth 20000 in
theorem wm_t226 : Cond.fieldLink "SoupCargo" 155 "SoupCargo$Code" "waysKnown" "Z" ∈ gT := gT_1 226 rfl rfl
set_option maxRecDepth 20000 in
theorem wm_t227 : Cond.fieldLink "SoupCargo$Code" 18 "SoupCargo$Code" "ways" "[I" ∈ gT := gT_1 227 rfl rfl
set_option maxRecDepth 20000 in
theorem wm_t228 : Cond.fieldLink "SoupCargo$Code" 22 "SoupCargo$Code" "firsts" "[I" ∈ gT := gT_1 228 rfl rfl
set_option maxRecDepth 20000 in
theorem wm_t229 : Cond.fieldLink "SoupCargo$Code" 25 "SoupCargo$Code" "values" "[I" ∈ gT := gT_1 229 rfl rfl
set_option maxRecDepth 20000 in
theorem wm_t241 : Cond.classLink "SoupCargo" 56 "SoupCargo$Cans" ∈ gT := gT_2 1 rfl rfl
set_option maxRecDepth 20000 in
theorem wm_t242 : Cond.instantiable "SoupCargo$Cans" 5 ∈ gT := gT_2 2 rfl rfl
set_option maxRecDepth 20000 in
theorem wm_t244 : Cond.instanceMethod ⟨"SoupCargo$Cans", "<init>", "()V"⟩ ∈ gT := gT_2 4 rfl rfl
set_option maxRecDepth 20000 in
theorem wm_t245 : Cond.code ⟨"SoupCargo$Cans", "<init>", "()V"⟩ prog_2_method_1_code 1 (Option.none : Option Jvm.ClassFile.FieldType) ∈ gT := gT_2 5 rfl rfl
set_option maxRecDepth 20000 in
theorem wm_t246 : Cond.methodLink "SoupCargo$Cans" 3 ⟨"java/lang/Object", "<init>", "()V"⟩ ∈ gT := gT_2 6 rfl rfl
set_option maxRecDepth 20000 in
theorem wm_t247 : Cond.fieldLink "SoupCargo$Cans" 9 "SoupCargo$Cans" "stepSize" "I" ∈ gT := gT_2 7 rfl rfl
set_option maxRecDepth 20000 in
theorem wm_t248 : Cond.fieldLink "SoupCargo" 251 "SoupCargo$Cans" "stepSize" "I" ∈ gT := gT_2 8 rfl rfl
set_option maxRecDepth 20000 in
theorem wm_t249 : Cond.fieldLink "SoupCargo$Cans" 25 "SoupCargo$Cans" "count" "I" ∈ gT := gT_2 9 rfl rfl
set_option maxRecDepth 20000 in
theorem wm_t250 : Cond.fieldLink "SoupCargo$Cans" 15 "SoupCargo$Cans" "cells" "[I" ∈ gT := gT_2 10 rfl rfl
set_option maxRecDepth 20000 in
theorem wm_t251 : Cond.fieldLink "SoupCargo$Cans" 19 "SoupCargo$Cans" "wets" "[I" ∈ gT := gT_2 11 rfl rfl
set_option maxRecDepth 20000 in
theorem wm_t252 : Cond.fieldLink "SoupCargo$Cans" 22 "SoupCargo$Cans" "hours" "[I" ∈ gT := gT_2 12 rfl rfl
set_option maxRecDepth 20000 in
theorem wm_t264 : Cond.classLink "SoupCargo" 63 "SoupCargo$Places" ∈ gT := gT_2 24 rfl rfl
set_option maxRecDepth 20000 in
theorem wm_t265 : Cond.instantiable "SoupCargo$Places" 2 ∈ gT := gT_2 25 rfl rfl
set_option maxRecDepth 20000 in
theorem wm_t267 : Cond.instanceMethod ⟨"SoupCargo$Places", "<init>", "()V"⟩ ∈ gT := gT_2 27 rfl rfl
set_option maxRecDepth 20000 in
theorem wm_t268 : Cond.code ⟨"SoupCargo$Places", "<init>", "()V"⟩ prog_5_method_1_code 1 (Option.none : Option Jvm.ClassFile.FieldType) ∈ gT := gT_2 28 rfl rfl
set_option maxRecDepth 20000 in
theorem wm_t269 : Cond.methodLink "SoupCargo$Places" 3 ⟨"java/lang/Object", "<init>", "()V"⟩ ∈ gT := gT_2 29 rfl rfl
set_option maxRecDepth 20000 in
theorem wm_t270 : Cond.fieldLink "SoupCargo$Places" 9 "SoupCargo$Places" "cells" "[I" ∈ gT := gT_2 30 rfl rfl
set_option maxRecDepth 20000 in
theorem wm_t271 : Cond.fieldLink "SoupCargo$Places" 15 "SoupCargo$Places" "needed" "[Z" ∈ gT := gT_2 31 rfl rfl
set_option maxRecDepth 20000 in
theorem wm_t277 : Cond.arrayClass Jvm.ClassFile.FieldType.boolean ∈ gT := gT_2 37 rfl rfl
set_option maxRecDepth 20000 in
theorem wm_t278 : Cond.classLink "SoupCargo" 70 "SoupCargo$Ships" ∈ gT := gT_2 38 rfl rfl
set_option maxRecDepth 20000 in
theorem wm_t279 : Cond.instantiable "SoupCargo$Ships" 3 ∈ gT := gT_2 39 rfl rfl
set_option maxRecDepth 20000 in
theorem wm_t281 : Cond.instanceMethod ⟨"SoupCargo$Ships", "<init>", "()V"⟩ ∈ gT := gT_2 41 rfl rfl
set_option maxRecDepth 20000 in
theorem wm_t282 : Cond.code ⟨"SoupCargo$Ships", "<init>", "()V"⟩ prog_8_method_1_code 1 (Option.none : Option Jvm.ClassFile.FieldType) ∈ gT := gT_2 42 rfl rfl
set_option maxRecDepth 20000 in
theorem wm_t283 : Cond.methodLink "SoupCargo$Ships" 3 ⟨"java/lang/Object", "<init>", "()V"⟩ ∈ gT := gT_2 43 rfl rfl
set_option maxRecDepth 20000 in
theorem wm_t284 : Cond.fieldLink "SoupCargo$Ships" 22 "SoupCargo$Ships" "count" "I" ∈ gT := gT_2 44 rfl rfl
set_option maxRecDepth 20000 in
theorem wm_t285 : Cond.fieldLink "SoupCargo$Ships" 11 "SoupCargo$Ships" "all" "[I" ∈ gT := gT_2 45 rfl rfl
set_option maxRecDepth 20000 in
theorem wm_t286 : Cond.fieldLink "SoupCargo$Ships" 15 "SoupCargo$Ships" "lost" "[I" ∈ gT := gT_2 46 rfl rfl
set_option maxRecDepth 20000 in
theorem wm_t294 : Cond.fieldLink "SoupCargo" 12 "SoupCargo" "weather" "LSoupCargo$Sky;" ∈ gT := gT_2 54 rfl rfl
set_option maxRecDepth 20000 in
theorem wm_t295 : Cond.fieldLink "SoupCargo" 21 "SoupCargo" "pile" "LSoupCargo$Stacks;" ∈ gT := gT_2 55 rfl rfl
set_option maxRecDepth 20000 in
theorem wm_t296 : Cond.fieldLink "SoupCargo" 28 "SoupCargo" "vessel" "LSoupCargo$Ship;" ∈ gT := gT_2 56 rfl rfl
set_option maxRecDepth 20000 in
theorem wm_t297 : Cond.fieldLink "SoupCargo" 32 "SoupCargo" "trial" "LSoupCargo$Ship;" ∈ gT := gT_2 57 rfl rfl
set_option maxRecDepth 20000 in
theorem wm_t298 : Cond.fieldLink "SoupCargo" 38 "SoupCargo" "reader" "LSoupCargo$Reader;" ∈ gT := gT_2 58 rfl rfl
set_option maxRecDepth 20000 in
theorem wm_t299 : Cond.fieldLink "SoupCargo" 45 "SoupCargo" "rules" "LSoupCargo$Laws;" ∈ gT := gT_2 59 rfl rfl
set_option maxRecDepth 20000 in
theorem wm_t300 : Cond.fieldLink "SoupCargo" 52 "SoupCargo" "permits" "LSoupCargo$Code;" ∈ gT := gT_2 60 rfl rfl
set_option maxRecDepth 20000 in
theorem wm_t301 : Cond.fieldLink "SoupCargo" 59 "SoupCargo" "samples" "LSoupCargo$Cans;" ∈ gT := gT_2 61 rfl rfl
set_option maxRecDepth 20000 in
theorem wm_t302 : Cond.fieldLink "SoupCargo" 66 "SoupCargo" "spots" "LSoupCargo$Places;" ∈ gT := gT_2 62 rfl rfl
set_option maxRecDepth 20000 in
theorem wm_t303 : Cond.fieldLink "SoupCargo" 73 "SoupCargo" "register" "LSoupCargo$Ships;" ∈ gT := gT_2 63 rfl rfl
set_option maxRecDepth 20000 in
theorem wm_t304 : Cond.fieldLink "SoupCargo" 77 "SoupCargo" "portHours" "[I" ∈ gT := gT_2 64 rfl rfl
set_option maxRecDepth 20000 in
theorem wm_t305 : Cond.fieldLink "SoupCargo" 295 "SoupCargo" "portCount" "I" ∈ gT := gT_2 65 rfl rfl
set_option maxRecDepth 20000 in
theorem wm_t306 : Cond.fieldLink "SoupCargo" 165 "SoupCargo" "now" "I" ∈ gT := gT_2 66 rfl rfl
set_option maxRecDepth 20000 in
theorem wm_t307 : Cond.fieldLink "SoupCargo" 81 "SoupCargo" "said" "I" ∈ gT := gT_2 67 rfl rfl
set_option maxRecDepth 20000 in
theorem wm_t337 : Cond.methodLink "SoupCargoLaw" 13 ⟨"SoupCargo", "sort", "(I)Z"⟩ ∈ gT := gT_2 97 rfl rfl
set_option maxRecDepth 20000 in
theorem wm_t338 : Cond.instanceMethod ⟨"SoupCargo", "sort", "(I)Z"⟩ ∈ gT := gT_2 98 rfl rfl
set_option maxRecDepth 20000 in
theorem wm_t339 : Cond.selects "SoupCargo" ⟨"SoupCargo", "sort", "(I)Z"⟩ ⟨"SoupCargo", "sort", "(I)Z"⟩ ∈ gT := gT_2 99 rfl rfl
set_option maxRecDepth 20000 in
theorem wm_t340 : Cond.code ⟨"SoupCargo", "sort", "(I)Z"⟩ prog_1_method_2_code 2 (Option.some Jvm.ClassFile.FieldType.boolean) ∈ gT := gT_2 100 rfl rfl
set_option maxRecDepth 20000 in
theorem wm_t341 : Cond.methodLink "SoupCargo" 85 ⟨"SoupCargo", "within", "(II)Z"⟩ ∈ gT := gT_2 101 rfl rfl
set_option maxRecDepth 20000 in
theorem wm_t342 : Cond.static ⟨"SoupCargo", "within", "(II)Z"⟩ ∈ gT := gT_2 102 rfl rfl
set_option maxRecDepth 20000 in
theorem wm_t343 : Cond.code ⟨"SoupCargo", "within", "(II)Z"⟩ prog_1_method_32_code 2 (Option.some Jvm.ClassFile.FieldType.boolean) ∈ gT := gT_2 103 rfl rfl
set_option maxRecDepth 20000 in
theorem wm_t344 : Cond.methodLink "SoupCargoLaw" 18 ⟨"SoupCargo", "sky", "(III)Z"⟩ ∈ gT := gT_2 104 rfl rfl
set_option maxRecDepth 20000 in
theorem wm_t345 : Cond.instanceMethod ⟨"SoupCargo", "sky", "(III)Z"⟩ ∈ gT := gT_2 105 rfl rfl
set_option maxRecDepth 20000 in
theorem wm_t346 : Cond.selects "SoupCargo" ⟨"SoupCargo", "sky", "(III)Z"⟩ ⟨"SoupCargo", "sky", "(III)Z"⟩ ∈ gT := gT_2 106 rfl rfl
set_option maxRecDepth 20000 in
theorem wm_t347 : Cond.code ⟨"SoupCargo", "sky", "(III)Z"⟩ prog_1_method_3_code 4 (Option.some Jvm.ClassFile.FieldType.boolean) ∈ gT := gT_2 107 rfl rfl
set_option maxRecDepth 20000 in
theorem wm_t348 : Cond.methodLink "SoupCargo" 92 ⟨"SoupCargo$Sky", "tell", "(III)Z"⟩ ∈ gT := gT_2 108 rfl rfl
set_option maxRecDepth 20000 in
theorem wm_t349 : Cond.instanceMethod ⟨"SoupCargo$Sky", "tell", "(III)Z"⟩ ∈ gT := gT_2 109 rfl rfl
set_option maxRecDepth 20000 in
theorem wm_t350 : Cond.selects "SoupCargo$Sky" ⟨"SoupCargo$Sky", "tell", "(III)Z"⟩ ⟨"SoupCargo$Sky", "tell", "(III)Z"⟩ ∈ gT := gT_2 110 rfl rfl
set_option maxRecDepth 20000 in
theorem wm_t351 : Cond.code ⟨"SoupCargo$Sky", "tell", "(III)Z"⟩ prog_9_method_2_code 4 (Option.some Jvm.ClassFile.FieldType.boolean) ∈ gT := gT_2 111 rfl rfl
set_option maxRecDepth 20000 in
theorem wm_t353 : Cond.methodLink "SoupCargoLaw" 23 ⟨"SoupCargo", "heap", "(IIIII)Z"⟩ ∈ gT := gT_2 113 rfl rfl
set_option maxRecDepth 20000 in
theorem wm_t354 : Cond.instanceMethod ⟨"SoupCargo", "heap", "(IIIII)Z"⟩ ∈ gT := gT_2 114 rfl rfl
set_option maxRecDepth 20000 in
theorem wm_t355 : Cond.selects "SoupCargo" ⟨"SoupCargo", "heap", "(IIIII)Z"⟩ ⟨"SoupCargo", "heap", "(IIIII)Z"⟩ ∈ gT := gT_2 115 rfl rfl
set_option maxRecDepth 20000 in
theorem wm_t356 : Cond.code ⟨"SoupCargo", "heap", "(IIIII)Z"⟩ prog_1_method_4_code 8 (Option.some Jvm.ClassFile.FieldType.boolean) ∈ gT := gT_2 116 rfl rfl
set_option maxRecDepth 20000 in
theorem wm_t357 : Cond.methodLink "SoupCargo" 96 ⟨"SoupCargo", "heapCell", "(III)I"⟩ ∈ gT := gT_2 117 rfl rfl
set_option maxRecDepth 20000 in
theorem wm_t358 : Cond.static ⟨"SoupCargo", "heapCell", "(III)I"⟩ ∈ gT := gT_2 118 rfl rfl
set_option maxRecDepth 20000 in
theorem wm_t359 : Cond.code ⟨"SoupCargo", "heapCell", "(III)I"⟩ prog_1_method_34_code 3 (Option.some Jvm.ClassFile.FieldType.int) ∈ gT := gT_2 119 rfl rfl
set_option maxRecDepth 20000 in
theorem wm_t360 : Cond.methodLink "SoupCargo" 100 ⟨"SoupCargo$Stacks", "height", "(I)I"⟩ ∈ gT := gT_2 120 rfl rfl
set_option maxRecDepth 20000 in
theorem wm_t361 : Cond.instanceMethod ⟨"SoupCargo$Stacks", "height", "(I)I"⟩ ∈ gT := gT_2 121 rfl rfl
set_option maxRecDepth 20000 in
theorem wm_t362 : Cond.selects "SoupCargo$Stacks" ⟨"SoupCargo$Stacks", "height", "(I)I"⟩ ⟨"SoupCargo$Stacks", "height", "(I)I"⟩ ∈ gT := gT_2 122 rfl rfl
set_option maxRecDepth 20000 in
theorem wm_t363 : Cond.code ⟨"SoupCargo$Stacks", "height", "(I)I"⟩ prog_10_method_4_code 3 (Option.some Jvm.ClassFile.FieldType.int) ∈ gT := gT_2 123 rfl rfl
set_option maxRecDepth 20000 in
theorem wm_t365 : Cond.methodLink "SoupCargoLaw" 28 ⟨"SoupCargo", "cell", "(IIIII)I"⟩ ∈ gT := gT_2 125 rfl rfl
set_option maxRecDepth 20000 in
theorem wm_t366 : Cond.instanceMethod ⟨"SoupCargo", "cell", "(IIIII)I"⟩ ∈ gT := gT_2 126 rfl rfl
set_option maxRecDepth 20000 in
theorem wm_t367 : Cond.selects "SoupCargo" ⟨"SoupCargo", "cell", "(IIIII)I"⟩ ⟨"SoupCargo", "cell", "(IIIII)I"⟩ ∈ gT := gT_2 127 rfl rfl
set_option maxRecDepth 20000 in
theorem wm_t368 : Cond.code ⟨"SoupCargo", "cell", "(IIIII)I"⟩ prog_1_method_5_code 8 (Option.some Jvm.ClassFile.FieldType.int) ∈ gT := gT_2 128 rfl rfl
set_option maxRecDepth 20000 in
theorem wm_t369 : Cond.methodLink "SoupCargo" 110 ⟨"SoupCargo", "stacksOf", "(I)LSoupCargo$Stacks;"⟩ ∈ gT := gT_2 129 rfl rfl
set_option maxRecDepth 20000 in
theorem wm_t371 : Cond.instanceMethod ⟨"SoupCargo", "stacksOf", "(I)LSoupCargo$Stacks;"⟩ ∈ gT := gT_2 131 rfl rfl
set_option maxRecDepth 20000 in
theorem wm_t372 : Cond.code ⟨"SoupCargo", "stacksOf", "(I)LSoupCargo$Stacks;"⟩ prog_1_method_37_code 2 (Option.some (Jvm.ClassFile.FieldType.object "SoupCargo$Stacks")) ∈ gT := gT_2 132 rfl rfl
set_option maxRecDepth 20000 in
theorem wm_t373 : Cond.methodLink "SoupCargo" 114 ⟨"SoupCargo", "cellOf", "(IIII)I"⟩ ∈ gT := gT_2 133 rfl rfl
set_option maxRecDepth 20000 in
theorem wm_t374 : Cond.static ⟨"SoupCargo", "cellOf", "(IIII)I"⟩ ∈ gT := gT_2 134 rfl rfl
set_option maxRecDepth 20000 in
theorem wm_t375 : Cond.code ⟨"SoupCargo", "cellOf", "(IIII)I"⟩ prog_1_method_36_code 4 (Option.some Jvm.ClassFile.FieldType.int) ∈ gT := gT_2 135 rfl rfl
set_option maxRecDepth 20000 in
theorem wm_t376 : Cond.methodLink "SoupCargo" 190 ⟨"SoupCargo", "holdCell", "(III)I"⟩ ∈ gT := gT_2 136 rfl rfl
set_option maxRecDepth 20000 in
theorem wm_t377 : Cond.static ⟨"SoupCargo", "holdCell", "(III)I"⟩ ∈ gT := gT_2 137 rfl rfl
set_option maxRecDepth 20000 in
theorem wm_t378 : Cond.code ⟨"SoupCargo", "holdCell", "(III)I"⟩ prog_1_method_35_code 3 (Option.some Jvm.ClassFile.FieldType.int) ∈ gT := gT_2 138 rfl rfl
set_option maxRecDepth 20000 in
theorem wm_t379 : Cond.methodLink "SoupCargo" 118 ⟨"SoupCargo$Stacks", "wetAt", "(I)I"⟩ ∈ gT := gT_2 139 rfl rfl
set_option maxRecDepth 20000 in
theorem wm_t380 : Cond.instanceMethod ⟨"SoupCargo$Stacks", "wetAt", "(I)I"⟩ ∈ gT := gT_2 140 rfl rfl
set_option maxRecDepth 20000 in
theorem wm_t381 : Cond.selects "SoupCargo$Stacks" ⟨"SoupCargo$Stacks", "wetAt", "(I)I"⟩ ⟨"SoupCargo$Stacks", "wetAt", "(I)I"⟩ ∈ gT := gT_2 141 rfl rfl
set_option maxRecDepth 20000 in
theorem wm_t382 : Cond.code ⟨"SoupCargo$Stacks", "wetAt", "(I)I"⟩ prog_10_method_3_code 2 (Option.some Jvm.ClassFile.FieldType.int) ∈ gT := gT_2 142 rfl rfl
set_option maxRecDepth 20000 in
theorem wm_t383 : Cond.methodLink "SoupCargoLaw" 33 ⟨"SoupCargo", "feed", "(IIIII)I"⟩ ∈ gT := gT_2 143 rfl rfl
set_option maxRecDepth 20000 in
theorem wm_t384 : Cond.instanceMethod ⟨"SoupCargo", "feed", "(IIIII)I"⟩ ∈ gT := gT_2 144 rfl rfl
set_option maxRecDepth 20000 in
theorem wm_t385 : Cond.selects "SoupCargo" ⟨"SoupCargo", "feed", "(IIIII)I"⟩ ⟨"SoupCargo", "feed", "(IIIII)I"⟩ ∈ gT := gT_2 145 rfl rfl
set_option maxRecDepth 20000 in
theorem wm_t386 : Cond.code ⟨"SoupCargo", "feed", "(IIIII)I"⟩ prog_1_method_6_code 6 (Option.some Jvm.ClassFile.FieldType.int) ∈ gT := gT_2 146 rfl rfl
set_option maxRecDepth 20000 in
theorem wm_t387 : Cond.methodLink "SoupCargo" 127 ⟨"SoupCargo$Reader", "hasRoom", "(I)Z"⟩ ∈ gT := gT_2 147 rfl rfl
set_option maxRecDepth 20000 in
theorem wm_t388 : Cond.instanceMethod ⟨"SoupCargo$Reader", "hasRoom", "(I)Z"⟩ ∈ gT := gT_2 148 rfl rfl
set_option maxRecDepth 20000 in
theorem wm_t389 : Cond.selects "SoupCargo$Reader" ⟨"SoupCargo$Reader", "hasRoom", "(I)Z"⟩ ⟨"SoupCargo$Reader", "hasRoom", "(I)Z"⟩ ∈ gT := gT_2 149 rfl rfl
set_option maxRecDepth 20000 in
theorem wm_t390 : Cond.code ⟨"SoupCargo$Reader", "hasRoom", "(I)Z"⟩ prog_6_method_2_code 2 (Option.some Jvm.ClassFile.FieldType.boolean) ∈ gT := gT_2 150 rfl rfl
set_option maxRecDepth 20000 in
theorem wm_t391 : Cond.methodLink "SoupCargo" 131 ⟨"SoupCargo$Reader", "addBytes", "(I)I"⟩ ∈ gT := gT_2 151 rfl rfl
set_option maxRecDepth 20000 in
theorem wm_t392 : Cond.instanceMethod ⟨"SoupCargo$Reader", "addBytes", "(I)I"⟩ ∈ gT := gT_2 152 rfl rfl
set_option maxRecDepth 20000 in
theorem wm_t393 : Cond.selects "SoupCargo$Reader" ⟨"SoupCargo$Reader", "addBytes", "(I)I"⟩ ⟨"SoupCargo$Reader", "addBytes", "(I)I"⟩ ∈ gT := gT_2 153 rfl rfl
set_option maxRecDepth 20000 in
theorem wm_t394 : Cond.code ⟨"SoupCargo$Reader", "addBytes", "(I)I"⟩ prog_6_method_3_code 3 (Option.some Jvm.ClassFile.FieldType.int) ∈ gT := gT_2 154 rfl rfl
set_option maxRecDepth 20000 in
theorem wm_t395 : Cond.methodLink "SoupCargoLaw" 37 ⟨"SoupCargo", "end", "(I)Z"⟩ ∈ gT := gT_2 155 rfl rfl
set_option maxRecDepth 20000 in
theorem wm_t396 : Cond.instanceMethod ⟨"SoupCargo", "end", "(I)Z"⟩ ∈ gT := gT_2 156 rfl rfl
set_option maxRecDepth 20000 in
theorem wm_t397 : Cond.selects "SoupCargo" ⟨"SoupCargo", "end", "(I)Z"⟩ ⟨"SoupCargo", "end", "(I)Z"⟩ ∈ gT := gT_2 157 rfl rfl
set_option maxRecDepth 20000 in
theorem wm_t398 : Cond.code ⟨"SoupCargo", "end", "(I)Z"⟩ prog_1_method_7_code 2 (Option.some Jvm.ClassFile.FieldType.boolean) ∈ gT := gT_2 158 rfl rfl
set_option maxRecDepth 20000 in
theorem wm_t399 : Cond.methodLink "SoupCargo" 134 ⟨"SoupCargo$Reader", "cutTo", "(I)Z"⟩ ∈ gT := gT_2 159 rfl rfl
set_option maxRecDepth 20000 in
theorem wm_t400 : Cond.instanceMethod ⟨"SoupCargo$Reader", "cutTo", "(I)Z"⟩ ∈ gT := gT_2 160 rfl rfl
set_option maxRecDepth 20000 in
theorem wm_t401 : Cond.selects "SoupCargo$Reader" ⟨"SoupCargo$Reader", "cutTo", "(I)Z"⟩ ⟨"SoupCargo$Reader", "cutTo", "(I)Z"⟩ ∈ gT := gT_2 161 rfl rfl
set_option maxRecDepth 20000 in
theorem wm_t402 : Cond.code ⟨"SoupCargo$Reader", "cutTo", "(I)Z"⟩ prog_6_method_4_code 2 (Option.some Jvm.ClassFile.FieldType.boolean) ∈ gT := gT_2 162 rfl rfl
set_option maxRecDepth 20000 in
theorem wm_t403 : Cond.methodLink "SoupCargoLaw" 41 ⟨"SoupCargo", "laws", "()I"⟩ ∈ gT := gT_2 163 rfl rfl
set_option maxRecDepth 20000 in
theorem wm_t404 : Cond.instanceMethod ⟨"SoupCargo", "laws", "()I"⟩ ∈ gT := gT_2 164 rfl rfl
set_option maxRecDepth 20000 in
theorem wm_t405 : Cond.selects "SoupCargo" ⟨"SoupCargo", "laws", "()I"⟩ ⟨"SoupCargo", "laws", "()I"⟩ ∈ gT := gT_2 165 rfl rfl
set_option maxRecDepth 20000 in
theorem wm_t406 : Cond.code ⟨"SoupCargo", "laws", "()I"⟩ prog_1_method_8_code 1 (Option.some Jvm.ClassFile.FieldType.int) ∈ gT := gT_2 166 rfl rfl
set_option maxRecDepth 20000 in
theorem wm_t407 : Cond.methodLink "SoupCargo" 137 ⟨"SoupCargo$Reader", "readTape", "(Z)Z"⟩ ∈ gT := gT_2 167 rfl rfl
set_option maxRecDepth 20000 in
theorem wm_t408 : Cond.instanceMethod ⟨"SoupCargo$Reader", "readTape", "(Z)Z"⟩ ∈ gT := gT_2 168 rfl rfl
set_option maxRecDepth 20000 in
theorem wm_t409 : Cond.selects "SoupCargo$Reader" ⟨"SoupCargo$Reader", "readTape", "(Z)Z"⟩ ⟨"SoupCargo$Reader", "readTape", "(Z)Z"⟩ ∈ gT := gT_2 169 rfl rfl
set_option maxRecDepth 20000 in
theorem wm_t410 : Cond.code ⟨"SoupCargo$Reader", "readTape", "(Z)Z"⟩ prog_6_method_6_code 4 (Option.some Jvm.ClassFile.FieldType.boolean) ∈ gT := gT_2 170 rfl rfl
set_option maxRecDepth 20000 in
theorem wm_t411 : Cond.methodLink "SoupCargo$Reader" 42 ⟨"SoupCargo$Words", "clear", "()V"⟩ ∈ gT := gT_2 171 rfl rfl
set_option maxRecDepth 20000 in
theorem wm_t412 : Cond.instanceMethod ⟨"SoupCargo$Words", "clear", "()V"⟩ ∈ gT := gT_2 172 rfl rfl
set_option maxRecDepth 20000 in
theorem wm_t413 : Cond.selects "SoupCargo$Words" ⟨"SoupCargo$Words", "clear", "()V"⟩ ⟨"SoupCargo$Words", "clear", "()V"⟩ ∈ gT := gT_2 173 rfl rfl
set_option maxRecDepth 20000 in
theorem wm_t414 : Cond.code ⟨"SoupCargo$Words", "clear", "()V"⟩ prog_11_method_2_code 1 (Option.none : Option Jvm.ClassFile.FieldType) ∈ gT := gT_2 174 rfl rfl
set_option maxRecDepth 20000 in
theorem wm_t415 : Cond.methodLink "SoupCargo$Reader" 45 ⟨"SoupCargo$Reader", "scan", "()V"⟩ ∈ gT := gT_2 175 rfl rfl
set_option maxRecDepth 20000 in
theorem wm_t417 : Cond.instanceMethod ⟨"SoupCargo$Reader", "scan", "()V"⟩ ∈ gT := gT_2 177 rfl rfl
set_option maxRecDepth 20000 in
theorem wm_t418 : Cond.code ⟨"SoupCargo$Reader", "scan", "()V"⟩ prog_6_method_7_code 5 (Option.none : Option Jvm.ClassFile.FieldType) ∈ gT := gT_2 178 rfl rfl
set_option maxRecDepth 20000 in
theorem wm_t419 : Cond.methodLink "SoupCargo$Reader" 58 ⟨"SoupCargo$Reader", "isLetter", "(I)Z"⟩ ∈ gT := gT_2 179 rfl rfl
set_option maxRecDepth 20000 in
theorem wm_t420 : Cond.static ⟨"SoupCargo$Reader", "isLetter", "(I)Z"⟩ ∈ gT := gT_2 180 rfl rfl
set_option maxRecDepth 20000 in
theorem wm_t421 : Cond.code ⟨"SoupCargo$Reader", "isLetter", "(I)Z"⟩ prog_6_method_8_code 1 (Option.some Jvm.ClassFile.FieldType.boolean) ∈ gT := gT_2 181 rfl rfl
set_option maxRecDepth 20000 in
theorem wm_t422 : Cond.methodLink "SoupCargo$Reader" 62 ⟨"SoupCargo$Reader", "runEnd", "(IZ)I"⟩ ∈ gT := gT_2 182 rfl rfl
set_option maxRecDepth 20000 in
theorem wm_t424 : Cond.instanceMethod ⟨"SoupCargo$Reader", "runEnd", "(IZ)I"⟩ ∈ gT := gT_2 184 rfl rfl
set_option maxRecDepth 20000 in
theorem wm_t425 : Cond.code ⟨"SoupCargo$Reader", "runEnd", "(IZ)I"⟩ prog_6_method_10_code 4 (Option.some Jvm.ClassFile.FieldType.int) ∈ gT := gT_2 185 rfl rfl
set_option maxRecDepth 20000 in
theorem wm_t426 : Cond.methodLink "SoupCargo$Reader" 70 ⟨"SoupCargo$Reader", "isDigit", "(I)Z"⟩ ∈ gT := gT_2 186 rfl rfl
set_option maxRecDepth 20000 in
theorem wm_t427 : Cond.static ⟨"SoupCargo$Reader", "isDigit", "(I)Z"⟩ ∈ gT := gT_2 187 rfl rfl
set_option maxRecDepth 20000 in
theorem wm_t428 : Cond.code ⟨"SoupCargo$Reader", "isDigit", "(I)Z"⟩ prog_6_method_9_code 1 (Option.some Jvm.ClassFile.FieldType.boolean) ∈ gT := gT_2 188 rfl rfl
set_option maxRecDepth 20000 in
theorem wm_t429 : Cond.methodLink "SoupCargo$Reader" 66 ⟨"SoupCargo$Reader", "wordKind", "(II)I"⟩ ∈ gT := gT_2 189 rfl rfl
set_option maxRecDepth 20000 in
theorem wm_t431 : Cond.instanceMethod ⟨"SoupCargo$Reader", "wordKind", "(II)I"⟩ ∈ gT := gT_2 191 rfl rfl
set_option maxRecDepth 20000 in
theorem wm_t432 : Cond.code ⟨"SoupCargo$Reader", "wordKind", "(II)I"⟩ prog_6_method_12_code 9 (Option.some Jvm.ClassFile.FieldType.int) ∈ gT := gT_2 192 rfl rfl
set_option maxRecDepth 20000 in
theorem wm_t435 : Cond.methodLink "SoupCargo$Reader" 88 ⟨"java/lang/String", "length", "()I"⟩ ∈ gT := gT_2 195 rfl rfl
set_option maxRecDepth 20000 in
theorem wm_t436 : Cond.instanceMethod ⟨"java/lang/String", "length", "()I"⟩ ∈ gT := gT_2 196 rfl rfl
set_option maxRecDepth 20000 in
theorem wm_t437 : Cond.selects "java/lang/String" ⟨"java/lang/String", "length", "()I"⟩ ⟨"java/lang/String", "length", "()I"⟩ ∈ gT := gT_2 197 rfl rfl
set_option maxRecDepth 20000 in
theorem wm_t438 : Cond.code ⟨"java/lang/String", "length", "()I"⟩ prog_17_method_54_code 1 (Option.some Jvm.ClassFile.FieldType.int) ∈ gT := gT_2 198 rfl rfl
set_option maxRecDepth 20000 in
theorem wm_t439 : Cond.methodLink "java/lang/String" 335 ⟨"java/lang/String", "coder", "()B"⟩ ∈ gT := gT_2 199 rfl rfl
set_option maxRecDepth 20000 in
theorem wm_t440 : Cond.instanceMethod ⟨"java/lang/String", "coder", "()B"⟩ ∈ gT := gT_2 200 rfl rfl
set_option maxRecDepth 20000 in
theorem wm_t441 : Cond.selects "java/lang/String" ⟨"java/lang/String", "coder", "()B"⟩ ⟨"java/lang/String", "coder", "()B"⟩ ∈ gT := gT_2 201 rfl rfl
set_option maxRecDepth 20000 in
theorem wm_t442 : Cond.code ⟨"java/lang/String", "coder", "()B"⟩ prog_17_method_152_code 1 (Option.some Jvm.ClassFile.FieldType.byte) ∈ gT := gT_2 202 rfl rfl
set_option maxRecDepth 20000 in
theorem wm_t443 : Cond.fieldLink "java/lang/String" 38 "java/lang/String" "COMPACT_STRINGS" "Z" ∈ gT := gT_2 203 rfl rfl
set_option maxRecDepth 20000 in
theorem wm_t445 : Cond.methodLink "SoupCargo$Reader" 91 ⟨"java/lang/String", "charAt", "(I)C"⟩ ∈ gT := gT_2 205 rfl rfl
set_option maxRecDepth 20000 in
theorem wm_t446 : Cond.instanceMethod ⟨"java/lang/String", "charAt", "(I)C"⟩ ∈ gT := gT_2 206 rfl rfl
set_option maxRecDepth 20000 in
theorem wm_t447 : Cond.selects "java/lang/String" ⟨"java/lang/String", "charAt", "(I)C"⟩ ⟨"java/lang/String", "charAt", "(I)C"⟩ ∈ gT := gT_2 207 rfl rfl
set_option maxRecDepth 20000 in
theorem wm_t448 : Cond.code ⟨"java/lang/String", "charAt", "(I)C"⟩ prog_17_method_56_code 2 (Option.some Jvm.ClassFile.FieldType.char) ∈ gT := gT_2 208 rfl rfl
set_option maxRecDepth 20000 in
theorem wm_t449 : Cond.methodLink "java/lang/String" 492 ⟨"java/lang/String", "isLatin1", "()Z"⟩ ∈ gT := gT_2 209 rfl rfl
set_option maxRecDepth 20000 in
theorem wm_t450 : Cond.instanceMethod ⟨"java/lang/String", "isLatin1", "()Z"⟩ ∈ gT := gT_2 210 rfl rfl
set_option maxRecDepth 20000 in
theorem wm_t451 : Cond.selects "java/lang/String" ⟨"java/lang/String", "isLatin1", "()Z"⟩ ⟨"java/lang/String", "isLatin1", "()Z"⟩ ∈ gT := gT_2 211 rfl rfl
set_option maxRecDepth 20000 in
theorem wm_t452 : Cond.code ⟨"java/lang/String", "isLatin1", "()Z"⟩ prog_17_method_154_code 1 (Option.some Jvm.ClassFile.FieldType.boolean) ∈ gT := gT_2 212 rfl rfl
set_option maxRecDepth 20000 in
theorem wm_t453 : Cond.methodLink "java/lang/String" 495 ⟨"java/lang/StringLatin1", "charAt", "([BI)C"⟩ ∈ gT := gT_2 213 rfl rfl
set_option maxRecDepth 20000 in
theorem wm_t454 : Cond.static ⟨"java/lang/StringLatin1", "charAt", "([BI)C"⟩ ∈ gT := gT_2 214 rfl rfl
set_option maxRecDepth 20000 in
theorem wm_t455 : Cond.code ⟨"java/lang/StringLatin1", "charAt", "([BI)C"⟩ prog_18_method_2_code 2 (Option.some Jvm.ClassFile.FieldType.char) ∈ gT := gT_2 215 rfl rfl
set_option maxRecDepth 20000 in
theorem wm_t456 : Cond.methodLink "java/lang/StringLatin1" 9 ⟨"java/lang/String", "checkIndex", "(II)V"⟩ ∈ gT := gT_2 216 rfl rfl
set_option maxRecDepth 20000 in
theorem wm_t457 : Cond.static ⟨"java/lang/String", "checkIndex", "(II)V"⟩ ∈ gT := gT_2 217 rfl rfl
set_option maxRecDepth 20000 in
theorem wm_t458 : Cond.code ⟨"java/lang/String", "checkIndex", "(II)V"⟩ prog_17_method_155_code 2 (Option.none : Option Jvm.ClassFile.FieldType) ∈ gT := gT_2 218 rfl rfl
set_option maxRecDepth 20000 in
theorem wm_t459 : Cond.fieldLink "java/lang/String" 1053 "jdk/internal/util/Preconditions" "SIOOBE_FORMATTER" "Ljava/util/function/BiFunction;" ∈ gT := gT_2 219 rfl rfl
set_option maxRecDepth 20000 in
theorem wm_t461 : Cond.methodLink "java/lang/String" 1059 ⟨"jdk/internal/util/Preconditions", "checkIndex", "(IILjava/util/function/BiFunction;)I"⟩ ∈ gT := gT_2 221 rfl rfl
set_option maxRecDepth 20000 in
theorem wm_t462 : Cond.static ⟨"jdk/internal/util/Preconditions", "checkIndex", "(IILjava/util/function/BiFunction;)I"⟩ ∈ gT := gT_2 222 rfl rfl
set_option maxRecDepth 20000 in
theorem wm_t463 : Cond.code ⟨"jdk/internal/util/Preconditions", "checkIndex", "(IILjava/util/function/BiFunction;)I"⟩ prog_21_method_11_code 3 (Option.some Jvm.ClassFile.FieldType.int) ∈ gT := gT_2 223 rfl rfl
set_option maxRecDepth 20000 in
theorem wm_t483 : Cond.methodLink "SoupCargo$Reader" 73 ⟨"SoupCargo$Reader", "numberKind", "(II)I"⟩ ∈ gT := gT_3 3 rfl rfl
set_option maxRecDepth 20000 in
theorem wm_t485 : Cond.instanceMethod ⟨"SoupCargo$Reader", "numberKind", "(II)I"⟩ ∈ gT := gT_3 5 rfl rfl
set_option maxRecDepth 20000 in
theorem wm_t486 : Cond.code ⟨"SoupCargo$Reader", "numberKind", "(II)I"⟩ prog_6_method_11_code 5 (Option.some Jvm.ClassFile.FieldType.int) ∈ gT := gT_3 6 rfl rfl
set_option maxRecDepth 20000 in
theorem wm_t488 : Cond.methodLink "SoupCargo$Reader" 78 ⟨"java/lang/String", "indexOf", "(I)I"⟩ ∈ gT := gT_3 8 rfl rfl
set_option maxRecDepth 20000 in
theorem wm_t489 : Cond.instanceMethod ⟨"java/lang/String", "indexOf", "(I)I"⟩ ∈ gT := gT_3 9 rfl rfl
set_option maxRecDepth 20000 in
theorem wm_t490 : Cond.selects "java/lang/String" ⟨"java/lang/String", "indexOf", "(I)I"⟩ ⟨"java/lang/String", "indexOf", "(I)I"⟩ ∈ gT := gT_3 10 rfl rfl
set_option maxRecDepth 20000 in
theorem wm_t491 : Cond.code ⟨"java/lang/String", "indexOf", "(I)I"⟩ prog_17_method_79_code 2 (Option.some Jvm.ClassFile.FieldType.int) ∈ gT := gT_3 11 rfl rfl
set_option maxRecDepth 20000 in
theorem wm_t492 : Cond.methodLink "java/lang/String" 633 ⟨"java/lang/String", "indexOf", "(II)I"⟩ ∈ gT := gT_3 12 rfl rfl
set_option maxRecDepth 20000 in
theorem wm_t493 : Cond.instanceMethod ⟨"java/lang/String", "indexOf", "(II)I"⟩ ∈ gT := gT_3 13 rfl rfl
set_option maxRecDepth 20000 in
theorem wm_t494 : Cond.selects "java/lang/String" ⟨"java/lang/String", "indexOf", "(II)I"⟩ ⟨"java/lang/String", "indexOf", "(II)I"⟩ ∈ gT := gT_3 14 rfl rfl
set_option maxRecDepth 20000 in
theorem wm_t495 : Cond.code ⟨"java/lang/String", "indexOf", "(II)I"⟩ prog_17_method_80_code 3 (Option.some Jvm.ClassFile.FieldType.int) ∈ gT := gT_3 15 rfl rfl
set_option maxRecDepth 20000 in
theorem wm_t496 : Cond.methodLink "java/lang/String" 505 ⟨"java/lang/String", "length", "()I"⟩ ∈ gT := gT_3 16 rfl rfl
set_option maxRecDepth 20000 in
theorem wm_t497 : Cond.methodLink "java/lang/String" 637 ⟨"java/lang/StringLatin1", "indexOf", "([BIII)I"⟩ ∈ gT := gT_3 17 rfl rfl
set_option maxRecDepth 20000 in
theorem wm_t498 : Cond.static ⟨"java/lang/StringLatin1", "indexOf", "([BIII)I"⟩ ∈ gT := gT_3 18 rfl rfl
set_option maxRecDepth 20000 in
theorem wm_t499 : Cond.code ⟨"java/lang/StringLatin1", "indexOf", "([BIII)I"⟩ prog_18_method_22_code 4 (Option.some Jvm.ClassFile.FieldType.int) ∈ gT := gT_3 19 rfl rfl
set_option maxRecDepth 20000 in
theorem wm_t500 : Cond.methodLink "java/lang/StringLatin1" 88 ⟨"java/lang/StringLatin1", "canEncode", "(I)Z"⟩ ∈ gT := gT_3 20 rfl rfl
set_option maxRecDepth 20000 in
theorem wm_t501 : Cond.static ⟨"java/lang/StringLatin1", "canEncode", "(I)Z"⟩ ∈ gT := gT_3 21 rfl rfl
set_option maxRecDepth 20000 in
theorem wm_t502 : Cond.code ⟨"java/lang/StringLatin1", "canEncode", "(I)Z"⟩ prog_18_method_4_code 1 (Option.some Jvm.ClassFile.FieldType.boolean) ∈ gT := gT_3 22 rfl rfl
set_option maxRecDepth 20000 in
theorem wm_t503 : Cond.methodLink "java/lang/StringLatin1" 92 ⟨"java/lang/Math", "max", "(II)I"⟩ ∈ gT := gT_3 23 rfl rfl
set_option maxRecDepth 20000 in
theorem wm_t504 : Cond.methodLink "java/lang/StringLatin1" 38 ⟨"java/lang/Math", "min", "(II)I"⟩ ∈ gT := gT_3 24 rfl rfl
set_option maxRecDepth 20000 in
theorem wm_t505 : Cond.static ⟨"java/lang/Math", "min", "(II)I"⟩ ∈ gT := gT_3 25 rfl rfl
set_option maxRecDepth 20000 in
theorem wm_t506 : Cond.code ⟨"java/lang/Math", "min", "(II)I"⟩ prog_16_method_69_code 2 (Option.some Jvm.ClassFile.FieldType.int) ∈ gT := gT_3 26 rfl rfl
set_option maxRecDepth 20000 in
theorem wm_t507 : Cond.methodLink "java/lang/StringLatin1" 95 ⟨"java/lang/StringLatin1", "indexOfChar", "([BIII)I"⟩ ∈ gT := gT_3 27 rfl rfl
set_option maxRecDepth 20000 in
theorem wm_t508 : Cond.static ⟨"java/lang/StringLatin1", "indexOfChar", "([BIII)I"⟩ ∈ gT := gT_3 28 rfl rfl
set_option maxRecDepth 20000 in
theorem wm_t509 : Cond.code ⟨"java/lang/StringLatin1", "indexOfChar", "([BIII)I"⟩ prog_18_method_23_code 6 (Option.some Jvm.ClassFile.FieldType.int) ∈ gT := gT_3 29 rfl rfl
set_option maxRecDepth 20000 in
theorem wm_t545 : Cond.methodLink "SoupCargo$Reader" 54 ⟨"SoupCargo$Reader", "line", "()Z"⟩ ∈ gT := gT_3 65 rfl rfl
set_option maxRecDepth 20000 in
theorem wm_t547 : Cond.instanceMethod ⟨"SoupCargo$Reader", "line", "()Z"⟩ ∈ gT := gT_3 67 rfl rfl
set_option maxRecDepth 20000 in
theorem wm_t548 : Cond.code ⟨"SoupCargo$Reader", "line", "()Z"⟩ prog_6_method_18_code 2 (Option.some Jvm.ClassFile.FieldType.boolean) ∈ gT := gT_3 68 rfl rfl
set_option maxRecDepth 20000 in
theorem wm_t549 : Cond.methodLink "SoupCargo$Reader" 98 ⟨"SoupCargo$Reader", "headKinds", "()I"⟩ ∈ gT := gT_3 69 rfl rfl
set_option maxRecDepth 20000 in
theorem wm_t551 : Cond.instanceMethod ⟨"SoupCargo$Reader", "headKinds", "()I"⟩ ∈ gT := gT_3 71 rfl rfl
set_option maxRecDepth 20000 in
theorem wm_t552 : Cond.code ⟨"SoupCargo$Reader", "headKinds", "()I"⟩ prog_6_method_17_code 1 (Option.some Jvm.ClassFile.FieldType.int) ∈ gT := gT_3 72 rfl rfl
set_option maxRecDepth 20000 in
theorem wm_t554 : Cond.methodLink "SoupCargo$Reader" 105 ⟨"SoupCargo$Reader", "fail", "(I)Z"⟩ ∈ gT := gT_3 74 rfl rfl
set_option maxRecDepth 20000 in
theorem wm_t556 : Cond.instanceMethod ⟨"SoupCargo$Reader", "fail", "(I)Z"⟩ ∈ gT := gT_3 76 rfl rfl
set_option maxRecDepth 20000 in
theorem wm_t557 : Cond.code ⟨"SoupCargo$Reader", "fail", "(I)Z"⟩ prog_6_method_16_code 2 (Option.some Jvm.ClassFile.FieldType.boolean) ∈ gT := gT_3 77 rfl rfl
set_option maxRecDepth 20000 in
theorem wm_t558 : Cond.methodLink "SoupCargo$Reader" 95 ⟨"SoupCargo$Reader", "advance", "()V"⟩ ∈ gT := gT_3 78 rfl rfl
set_option maxRecDepth 20000 in
theorem wm_t560 : Cond.instanceMethod ⟨"SoupCargo$Reader", "advance", "()V"⟩ ∈ gT := gT_3 80 rfl rfl
set_option maxRecDepth 20000 in
theorem wm_t561 : Cond.code ⟨"SoupCargo$Reader", "advance", "()V"⟩ prog_6_method_13_code 1 (Option.none : Option Jvm.ClassFile.FieldType) ∈ gT := gT_3 81 rfl rfl
set_option maxRecDepth 20000 in
theorem wm_t562 : Cond.methodLink "SoupCargo$Reader" 111 ⟨"SoupCargo$Reader", "lawPart", "(I)Z"⟩ ∈ gT := gT_3 82 rfl rfl
set_option maxRecDepth 20000 in
theorem wm_t564 : Cond.instanceMethod ⟨"SoupCargo$Reader", "lawPart", "(I)Z"⟩ ∈ gT := gT_3 84 rfl rfl
set_option maxRecDepth 20000 in
theorem wm_t565 : Cond.code ⟨"SoupCargo$Reader", "lawPart", "(I)Z"⟩ prog_6_method_19_code 2 (Option.some Jvm.ClassFile.FieldType.boolean) ∈ gT := gT_3 85 rfl rfl
set_option maxRecDepth 20000 in
theorem wm_t566 : Cond.methodLink "SoupCargo$Reader" 129 ⟨"SoupCargo$Words", "beginLine", "(II)V"⟩ ∈ gT := gT_3 86 rfl rfl
set_option maxRecDepth 20000 in
theorem wm_t567 : Cond.instanceMethod ⟨"SoupCargo$Words", "beginLine", "(II)V"⟩ ∈ gT := gT_3 87 rfl rfl
set_option maxRecDepth 20000 in
theorem wm_t568 : Cond.selects "SoupCargo$Words" ⟨"SoupCargo$Words", "beginLine", "(II)V"⟩ ⟨"SoupCargo$Words", "beginLine", "(II)V"⟩ ∈ gT := gT_3 88 rfl rfl
set_option maxRecDepth 20000 in
theorem wm_t569 : Cond.code ⟨"SoupCargo$Words", "beginLine", "(II)V"⟩ prog_11_method_3_code 3 (Option.none : Option Jvm.ClassFile.FieldType) ∈ gT := gT_3 89 rfl rfl
set_option maxRecDepth 20000 in
theorem wm_t570 : Cond.methodLink "SoupCargo$Reader" 133 ⟨"SoupCargo$Reader", "sum", "()Z"⟩ ∈ gT := gT_3 90 rfl rfl
set_option maxRecDepth 20000 in
theorem wm_t572 : Cond.instanceMethod ⟨"SoupCargo$Reader", "sum", "()Z"⟩ ∈ gT := gT_3 92 rfl rfl
set_option maxRecDepth 20000 in
theorem wm_t573 : Cond.code ⟨"SoupCargo$Reader", "sum", "()Z"⟩ prog_6_method_24_code 4 (Option.some Jvm.ClassFile.FieldType.boolean) ∈ gT := gT_3 93 rfl rfl
set_option maxRecDepth 20000 in
theorem wm_t574 : Cond.methodLink "SoupCargo$Reader" 148 ⟨"SoupCargo$Reader", "unit", "()Z"⟩ ∈ gT := gT_3 94 rfl rfl
set_option maxRecDepth 20000 in
theorem wm_t576 : Cond.instanceMethod ⟨"SoupCargo$Reader", "unit", "()Z"⟩ ∈ gT := gT_3 96 rfl rfl
set_option maxRecDepth 20000 in
theorem wm_t577 : Cond.code ⟨"SoupCargo$Reader", "unit", "()Z"⟩ prog_6_method_25_code 2 (Option.some Jvm.ClassFile.FieldType.boolean) ∈ gT := gT_3 97 rfl rfl
set_option maxRecDepth 20000 in
theorem wm_t578 : Cond.methodLink "SoupCargo$Reader" 136 ⟨"SoupCargo$Reader", "numberHere", "()I"⟩ ∈ gT := gT_3 98 rfl rfl
set_option maxRecDepth 20000 in
theorem wm_t580 : Cond.instanceMethod ⟨"SoupCargo$Reader", "numberHere", "()I"⟩ ∈ gT := gT_3 100 rfl rfl
set_option maxRecDepth 20000 in
theorem wm_t581 : Cond.code ⟨"SoupCargo$Reader", "numberHere", "()I"⟩ prog_6_method_15_code 1 (Option.some Jvm.ClassFile.FieldType.int) ∈ gT := gT_3 101 rfl rfl
set_option maxRecDepth 20000 in
theorem wm_t582 : Cond.methodLink "SoupCargo$Reader" 142 ⟨"SoupCargo$Words", "add", "(II)V"⟩ ∈ gT := gT_3 102 rfl rfl
set_option maxRecDepth 20000 in
theorem wm_t583 : Cond.instanceMethod ⟨"SoupCargo$Words", "add", "(II)V"⟩ ∈ gT := gT_3 103 rfl rfl
set_option maxRecDepth 20000 in
theorem wm_t584 : Cond.selects "SoupCargo$Words" ⟨"SoupCargo$Words", "add", "(II)V"⟩ ⟨"SoupCargo$Words", "add", "(II)V"⟩ ∈ gT := gT_3 104 rfl rfl
set_option maxRecDepth 20000 in
theorem wm_t585 : Cond.code ⟨"SoupCargo$Words", "add", "(II)V"⟩ prog_11_method_6_code 3 (Option.none : Option Jvm.ClassFile.FieldType) ∈ gT := gT_3 105 rfl rfl
set_option maxRecDepth 20000 in
theorem wm_t586 : Cond.methodLink "SoupCargo$Reader" 151 ⟨"SoupCargo$Reader", "parts", "()Z"⟩ ∈ gT := gT_3 106 rfl rfl
set_option maxRecDepth 20000 in
theorem wm_t588 : Cond.instanceMethod ⟨"SoupCargo$Reader", "parts", "()Z"⟩ ∈ gT := gT_3 108 rfl rfl
set_option maxRecDepth 20000 in
theorem wm_t589 : Cond.code ⟨"SoupCargo$Reader", "parts", "()Z"⟩ prog_6_method_26_code 3 (Option.some Jvm.ClassFile.FieldType.boolean) ∈ gT := gT_3 109 rfl rfl
set_option maxRecDepth 20000 in
theorem wm_t590 : Cond.methodLink "SoupCargo$Reader" 120 ⟨"SoupCargo$Reader", "take", "(I)Z"⟩ ∈ gT := gT_3 110 rfl rfl
set_option maxRecDepth 20000 in
theorem wm_t592 : Cond.instanceMethod ⟨"SoupCargo$Reader", "take", "(I)Z"⟩ ∈ gT := gT_3 112 rfl rfl
set_option maxRecDepth 20000 in
theorem wm_t593 : Cond.code ⟨"SoupCargo$Reader", "take", "(I)Z"⟩ prog_6_method_14_code 2 (Option.some Jvm.ClassFile.FieldType.boolean) ∈ gT := gT_3 113 rfl rfl
set_option maxRecDepth 20000 in
theorem wm_t594 : Cond.methodLink "SoupCargo$Reader" 114 ⟨"SoupCargo$Reader", "personPart", "(I)Z"⟩ ∈ gT := gT_3 114 rfl rfl
set_option maxRecDepth 20000 in
theorem wm_t596 : Cond.instanceMethod ⟨"SoupCargo$Reader", "personPart", "(I)Z"⟩ ∈ gT := gT_3 116 rfl rfl
set_option maxRecDepth 20000 in
theorem wm_t597 : Cond.code ⟨"SoupCargo$Reader", "personPart", "(I)Z"⟩ prog_6_method_20_code 3 (Option.some Jvm.ClassFile.FieldType.boolean) ∈ gT := gT_3 117 rfl rfl
set_option maxRecDepth 20000 in
theorem wm_t598 : Cond.methodLink "SoupCargo$Reader" 117 ⟨"SoupCargo$Words", "beginWhen", "()V"⟩ ∈ gT := gT_3 118 rfl rfl
set_option maxRecDepth 20000 in
theorem wm_t599 : Cond.instanceMethod ⟨"SoupCargo$Words", "beginWhen", "()V"⟩ ∈ gT := gT_3 119 rfl rfl
set_option maxRecDepth 20000 in
theorem wm_t600 : Cond.selects "SoupCargo$Words" ⟨"SoupCargo$Words", "beginWhen", "()V"⟩ ⟨"SoupCargo$Words", "beginWhen", "()V"⟩ ∈ gT := gT_3 120 rfl rfl
set_option maxRecDepth 20000 in
theorem wm_t601 : Cond.code ⟨"SoupCargo$Words", "beginWhen", "()V"⟩ prog_11_method_4_code 1 (Option.none : Option Jvm.ClassFile.FieldType) ∈ gT := gT_3 121 rfl rfl
set_option maxRecDepth 20000 in
theorem wm_t602 : Cond.methodLink "SoupCargo$Reader" 123 ⟨"SoupCargo$Reader", "claims", "(I)Z"⟩ ∈ gT := gT_3 122 rfl rfl
set_option maxRecDepth 20000 in
theorem wm_t604 : Cond.instanceMethod ⟨"SoupCargo$Reader", "claims", "(I)Z"⟩ ∈ gT := gT_3 124 rfl rfl
set_option maxRecDepth 20000 in
theorem wm_t605 : Cond.code ⟨"SoupCargo$Reader", "claims", "(I)Z"⟩ prog_6_method_21_code 5 (Option.some Jvm.ClassFile.FieldType.boolean) ∈ gT := gT_3 125 rfl rfl
set_option maxRecDepth 20000 in
theorem wm_t606 : Cond.methodLink "SoupCargo$Reader" 139 ⟨"SoupCargo$Reader", "claim", "(I)Z"⟩ ∈ gT := gT_3 126 rfl rfl
set_option maxRecDepth 20000 in
theorem wm_t608 : Cond.instanceMethod ⟨"SoupCargo$Reader", "claim", "(I)Z"⟩ ∈ gT := gT_3 128 rfl rfl
set_option maxRecDepth 20000 in
theorem wm_t609 : Cond.code ⟨"SoupCargo$Reader", "claim", "(I)Z"⟩ prog_6_method_22_code 3 (Option.some Jvm.ClassFile.FieldType.boolean) ∈ gT := gT_3 129 rfl rfl
set_option maxRecDepth 20000 in
theorem wm_t610 : Cond.methodLink "SoupCargo$Reader" 145 ⟨"SoupCargo$Reader", "opened", "(I)Z"⟩ ∈ gT := gT_3 130 rfl rfl
set_option maxRecDepth 20000 in
theorem wm_t612 : Cond.instanceMethod ⟨"SoupCargo$Reader", "opened", "(I)Z"⟩ ∈ gT := gT_3 132 rfl rfl
set_option maxRecDepth 20000 in
theorem wm_t613 : Cond.code ⟨"SoupCargo$Reader", "opened", "(I)Z"⟩ prog_6_method_23_code 2 (Option.some Jvm.ClassFile.FieldType.boolean) ∈ gT := gT_3 133 rfl rfl
set_option maxRecDepth 20000 in
theorem wm_t614 : Cond.methodLink "SoupCargo$Reader" 126 ⟨"SoupCargo$Words", "endLine", "()V"⟩ ∈ gT := gT_3 134 rfl rfl
set_option maxRecDepth 20000 in
theorem wm_t615 : Cond.instanceMethod ⟨"SoupCargo$Words", "endLine", "()V"⟩ ∈ gT := gT_3 135 rfl rfl
set_option maxRecDepth 20000 in
theorem wm_t616 : Cond.selects "SoupCargo$Words" ⟨"SoupCargo$Words", "endLine", "()V"⟩ ⟨"SoupCargo$Words", "endLine", "()V"⟩ ∈ gT := gT_3 136 rfl rfl
set_option maxRecDepth 20000 in
theorem wm_t617 : Cond.code ⟨"SoupCargo$Words", "endLine", "()V"⟩ prog_11_method_5_code 1 (Option.none : Option Jvm.ClassFile.FieldType) ∈ gT := gT_3 137 rfl rfl
set_option maxRecDepth 20000 in
theorem wm_t618 : Cond.methodLink "SoupCargo" 145 ⟨"SoupCargo$Reader", "exchange", "(LSoupCargo$Words;)LSoupCargo$Words;"⟩ ∈ gT := gT_3 138 rfl rfl
set_option maxRecDepth 20000 in
theorem wm_t619 : Cond.instanceMethod ⟨"SoupCargo$Reader", "exchange", "(LSoupCargo$Words;)LSoupCargo$Words;"⟩ ∈ gT := gT_3 139 rfl rfl
set_option maxRecDepth 20000 in
theorem wm_t620 : Cond.selects "SoupCargo$Reader" ⟨"SoupCargo$Reader", "exchange", "(LSoupCargo$Words;)LSoupCargo$Words;"⟩ ⟨"SoupCargo$Reader", "exchange", "(LSoupCargo$Words;)LSoupCargo$Words;"⟩ ∈ gT := gT_3 140 rfl rfl
set_option maxRecDepth 20000 in
theorem wm_t621 : Cond.code ⟨"SoupCargo$Reader", "exchange", "(LSoupCargo$Words;)LSoupCargo$Words;"⟩ prog_6_method_5_code 3 (Option.some (Jvm.ClassFile.FieldType.object "SoupCargo$Words")) ∈ gT := gT_3 141 rfl rfl
set_option maxRecDepth 20000 in
theorem wm_t623 : Cond.methodLink "SoupCargoLaw" 46 ⟨"SoupCargo", "code", "()I"⟩ ∈ gT := gT_3 143 rfl rfl
set_option maxRecDepth 20000 in
theorem wm_t624 : Cond.instanceMethod ⟨"SoupCargo", "code", "()I"⟩ ∈ gT := gT_3 144 rfl rfl
set_option maxRecDepth 20000 in
theorem wm_t625 : Cond.selects "SoupCargo" ⟨"SoupCargo", "code", "()I"⟩ ⟨"SoupCargo", "code", "()I"⟩ ∈ gT := gT_3 145 rfl rfl
set_option maxRecDepth 20000 in
theorem wm_t626 : Cond.code ⟨"SoupCargo", "code", "()I"⟩ prog_1_method_9_code 1 (Option.some Jvm.ClassFile.FieldType.int) ∈ gT := gT_3 146 rfl rfl
set_option maxRecDepth 20000 in
theorem wm_t627 : Cond.methodLink "SoupCargoLaw" 50 ⟨"SoupCargo", "fault", "(I)I"⟩ ∈ gT := gT_3 147 rfl rfl
set_option maxRecDepth 20000 in
theorem wm_t628 : Cond.instanceMethod ⟨"SoupCargo", "fault", "(I)I"⟩ ∈ gT := gT_3 148 rfl rfl
set_option maxRecDepth 20000 in
theorem wm_t629 : Cond.selects "SoupCargo" ⟨"SoupCargo", "fault", "(I)I"⟩ ⟨"SoupCargo", "fault", "(I)I"⟩ ∈ gT := gT_3 149 rfl rfl
set_option maxRecDepth 20000 in
theorem wm_t630 : Cond.code ⟨"SoupCargo", "fault", "(I)I"⟩ prog_1_method_10_code 2 (Option.some Jvm.ClassFile.FieldType.int) ∈ gT := gT_3 150 rfl rfl
set_option maxRecDepth 20000 in
theorem wm_t631 : Cond.methodLink "SoupCargoLaw" 55 ⟨"SoupCargo", "hours", "(I)I"⟩ ∈ gT := gT_3 151 rfl rfl
set_option maxRecDepth 20000 in
theorem wm_t632 : Cond.instanceMethod ⟨"SoupCargo", "hours", "(I)I"⟩ ∈ gT := gT_3 152 rfl rfl
set_option maxRecDepth 20000 in
theorem wm_t633 : Cond.selects "SoupCargo" ⟨"SoupCargo", "hours", "(I)I"⟩ ⟨"SoupCargo", "hours", "(I)I"⟩ ∈ gT := gT_3 153 rfl rfl
set_option maxRecDepth 20000 in
theorem wm_t634 : Cond.code ⟨"SoupCargo", "hours", "(I)I"⟩ prog_1_method_11_code 4 (Option.some Jvm.ClassFile.FieldType.int) ∈ gT := gT_3 154 rfl rfl
set_option maxRecDepth 20000 in
theorem wm_t635 : Cond.methodLink "SoupCargo" 168 ⟨"SoupCargo$Sky", "rainAt", "(I)I"⟩ ∈ gT := gT_3 155 rfl rfl
set_option maxRecDepth 20000 in
theorem wm_t636 : Cond.instanceMethod ⟨"SoupCargo$Sky", "rainAt", "(I)I"⟩ ∈ gT := gT_3 156 rfl rfl
set_option maxRecDepth 20000 in
theorem wm_t637 : Cond.selects "SoupCargo$Sky" ⟨"SoupCargo$Sky", "rainAt", "(I)I"⟩ ⟨"SoupCargo$Sky", "rainAt", "(I)I"⟩ ∈ gT := gT_3 157 rfl rfl
set_option maxRecDepth 20000 in
theorem wm_t638 : Cond.code ⟨"SoupCargo$Sky", "rainAt", "(I)I"⟩ prog_9_method_3_code 2 (Option.some Jvm.ClassFile.FieldType.int) ∈ gT := gT_3 158 rfl rfl
set_option maxRecDepth 20000 in
theorem wm_t639 : Cond.methodLink "SoupCargo" 171 ⟨"SoupCargo$Laws", "setTime", "(II)V"⟩ ∈ gT := gT_3 159 rfl rfl
set_option maxRecDepth 20000 in
theorem wm_t640 : Cond.instanceMethod ⟨"SoupCargo$Laws", "setTime", "(II)V"⟩ ∈ gT := gT_3 160 rfl rfl
set_option maxRecDepth 20000 in
theorem wm_t641 : Cond.selects "SoupCargo$Laws" ⟨"SoupCargo$Laws", "setTime", "(II)V"⟩ ⟨"SoupCargo$Laws", "setTime", "(II)V"⟩ ∈ gT := gT_3 161 rfl rfl
set_option maxRecDepth 20000 in
theorem wm_t642 : Cond.code ⟨"SoupCargo$Laws", "setTime", "(II)V"⟩ prog_4_method_2_code 3 (Option.none : Option Jvm.ClassFile.FieldType) ∈ gT := gT_3 162 rfl rfl
set_option maxRecDepth 20000 in
theorem wm_t643 : Cond.methodLink "SoupCargo" 175 ⟨"SoupCargo$Stacks", "rainAndDry", "(LSoupCargo$Laws;I)V"⟩ ∈ gT := gT_3 163 rfl rfl
set_option maxRecDepth 20000 in
theorem wm_t644 : Cond.instanceMethod ⟨"SoupCargo$Stacks", "rainAndDry", "(LSoupCargo$Laws;I)V"⟩ ∈ gT := gT_3 164 rfl rfl
set_option maxRecDepth 20000 in
theorem wm_t645 : Cond.selects "SoupCargo$Stacks" ⟨"SoupCargo$Stacks", "rainAndDry", "(LSoupCargo$Laws;I)V"⟩ ⟨"SoupCargo$Stacks", "rainAndDry", "(LSoupCargo$Laws;I)V"⟩ ∈ gT := gT_3 165 rfl rfl
set_option maxRecDepth 20000 in
theorem wm_t646 : Cond.code ⟨"SoupCargo$Stacks", "rainAndDry", "(LSoupCargo$Laws;I)V"⟩ prog_10_method_9_code 6 (Option.none : Option Jvm.ClassFile.FieldType) ∈ gT := gT_3 166 rfl rfl
set_option maxRecDepth 20000 in
theorem wm_t647 : Cond.methodLink "SoupCargo$Stacks" 79 ⟨"SoupCargo$Stacks", "height", "(I)I"⟩ ∈ gT := gT_3 167 rfl rfl
set_option maxRecDepth 20000 in
theorem wm_t648 : Cond.methodLink "SoupCargo$Stacks" 82 ⟨"SoupCargo$Stacks", "pour", "(II)V"⟩ ∈ gT := gT_3 168 rfl rfl
set_option maxRecDepth 20000 in
theorem wm_t650 : Cond.instanceMethod ⟨"SoupCargo$Stacks", "pour", "(II)V"⟩ ∈ gT := gT_3 170 rfl rfl
set_option maxRecDepth 20000 in
theorem wm_t651 : Cond.code ⟨"SoupCargo$Stacks", "pour", "(II)V"⟩ prog_10_method_11_code 4 (Option.none : Option Jvm.ClassFile.FieldType) ∈ gT := gT_3 171 rfl rfl
set_option maxRecDepth 20000 in
theorem wm_t652 : Cond.methodLink "SoupCargo$Stacks" 41 ⟨"java/lang/Math", "min", "(II)I"⟩ ∈ gT := gT_3 172 rfl rfl
set_option maxRecDepth 20000 in
theorem wm_t653 : Cond.methodLink "SoupCargo$Stacks" 86 ⟨"SoupCargo$Stacks", "lawOf", "(LSoupCargo$Laws;II)I"⟩ ∈ gT := gT_3 173 rfl rfl
set_option maxRecDepth 20000 in
theorem wm_t654 : Cond.instanceMethod ⟨"SoupCargo$Stacks", "lawOf", "(LSoupCargo$Laws;II)I"⟩ ∈ gT := gT_3 174 rfl rfl
set_option maxRecDepth 20000 in
theorem wm_t655 : Cond.selects "SoupCargo$Stacks" ⟨"SoupCargo$Stacks", "lawOf", "(LSoupCargo$Laws;II)I"⟩ ⟨"SoupCargo$Stacks", "lawOf", "(LSoupCargo$Laws;II)I"⟩ ∈ gT := gT_3 175 rfl rfl
set_option maxRecDepth 20000 in
theorem wm_t656 : Cond.code ⟨"SoupCargo$Stacks", "lawOf", "(LSoupCargo$Laws;II)I"⟩ prog_10_method_7_code 5 (Option.some Jvm.ClassFile.FieldType.int) ∈ gT := gT_3 176 rfl rfl
set_option maxRecDepth 20000 in
theorem wm_t657 : Cond.methodLink "SoupCargo$Stacks" 57 ⟨"SoupCargo$Laws", "setCell", "(IIII)V"⟩ ∈ gT := gT_3 177 rfl rfl
set_option maxRecDepth 20000 in
theorem wm_t658 : Cond.instanceMethod ⟨"SoupCargo$Laws", "setCell", "(IIII)V"⟩ ∈ gT := gT_3 178 rfl rfl
set_option maxRecDepth 20000 in
theorem wm_t659 : Cond.selects "SoupCargo$Laws" ⟨"SoupCargo$Laws", "setCell", "(IIII)V"⟩ ⟨"SoupCargo$Laws", "setCell", "(IIII)V"⟩ ∈ gT := gT_3 179 rfl rfl
set_option maxRecDepth 20000 in
theorem wm_t660 : Cond.code ⟨"SoupCargo$Laws", "setCell", "(IIII)V"⟩ prog_4_method_4_code 5 (Option.none : Option Jvm.ClassFile.FieldType) ∈ gT := gT_3 180 rfl rfl
set_option maxRecDepth 20000 in
theorem wm_t661 : Cond.methodLink "SoupCargo$Stacks" 63 ⟨"SoupCargo$Stacks", "isLit", "(LSoupCargo$Laws;II)Z"⟩ ∈ gT := gT_3 181 rfl rfl
set_option maxRecDepth 20000 in
theorem wm_t663 : Cond.instanceMethod ⟨"SoupCargo$Stacks", "isLit", "(LSoupCargo$Laws;II)Z"⟩ ∈ gT := gT_3 183 rfl rfl
set_option maxRecDepth 20000 in
theorem wm_t664 : Cond.code ⟨"SoupCargo$Stacks", "isLit", "(LSoupCargo$Laws;II)Z"⟩ prog_10_method_8_code 5 (Option.some Jvm.ClassFile.FieldType.boolean) ∈ gT := gT_3 184 rfl rfl
set_option maxRecDepth 20000 in
theorem wm_t665 : Cond.methodLink "SoupCargo$Stacks" 75 ⟨"SoupCargo$Laws", "clock", "()I"⟩ ∈ gT := gT_3 185 rfl rfl
set_option maxRecDepth 20000 in
theorem wm_t666 : Cond.instanceMethod ⟨"SoupCargo$Laws", "clock", "()I"⟩ ∈ gT := gT_3 186 rfl rfl
set_option maxRecDepth 20000 in
theorem wm_t667 : Cond.selects "SoupCargo$Laws" ⟨"SoupCargo$Laws", "clock", "()I"⟩ ⟨"SoupCargo$Laws", "clock", "()I"⟩ ∈ gT := gT_3 187 rfl rfl
set_option maxRecDepth 20000 in
theorem wm_t668 : Cond.code ⟨"SoupCargo$Laws", "clock", "()I"⟩ prog_4_method_3_code 1 (Option.some Jvm.ClassFile.FieldType.int) ∈ gT := gT_3 188 rfl rfl
set_option maxRecDepth 20000 in
theorem wm_t669 : Cond.methodLink "SoupCargo$Stacks" 67 ⟨"SoupCargo$Laws", "setLight", "(Z)V"⟩ ∈ gT := gT_3 189 rfl rfl
set_option maxRecDepth 20000 in
theorem wm_t670 : Cond.instanceMethod ⟨"SoupCargo$Laws", "setLight", "(Z)V"⟩ ∈ gT := gT_3 190 rfl rfl
set_option maxRecDepth 20000 in
theorem wm_t671 : Cond.selects "SoupCargo$Laws" ⟨"SoupCargo$Laws", "setLight", "(Z)V"⟩ ⟨"SoupCargo$Laws", "setLight", "(Z)V"⟩ ∈ gT := gT_3 191 rfl rfl
set_option maxRecDepth 20000 in
theorem wm_t672 : Cond.code ⟨"SoupCargo$Laws", "setLight", "(Z)V"⟩ prog_4_method_5_code 2 (Option.none : Option Jvm.ClassFile.FieldType) ∈ gT := gT_3 192 rfl rfl
set_option maxRecDepth 20000 in
theorem wm_t673 : Cond.methodLink "SoupCargo$Stacks" 71 ⟨"SoupCargo$Laws", "comesTo", "(I)I"⟩ ∈ gT := gT_3 193 rfl rfl
set_option maxRecDepth 20000 in
theorem wm_t674 : Cond.instanceMethod ⟨"SoupCargo$Laws", "comesTo", "(I)I"⟩ ∈ gT := gT_3 194 rfl rfl
set_option maxRecDepth 20000 in
theorem wm_t675 : Cond.selects "SoupCargo$Laws" ⟨"SoupCargo$Laws", "comesTo", "(I)I"⟩ ⟨"SoupCargo$Laws", "comesTo", "(I)I"⟩ ∈ gT := gT_3 195 rfl rfl
set_option maxRecDepth 20000 in
theorem wm_t676 : Cond.code ⟨"SoupCargo$Laws", "comesTo", "(I)I"⟩ prog_4_method_6_code 3 (Option.some Jvm.ClassFile.FieldType.int) ∈ gT := gT_3 196 rfl rfl
set_option maxRecDepth 20000 in
theorem wm_t677 : Cond.methodLink "SoupCargo$Laws" 27 ⟨"SoupCargo$Words", "isOf", "(II)Z"⟩ ∈ gT := gT_3 197 rfl rfl
set_option maxRecDepth 20000 in
theorem wm_t678 : Cond.instanceMethod ⟨"SoupCargo$Words", "isOf", "(II)Z"⟩ ∈ gT := gT_3 198 rfl rfl
set_option maxRecDepth 20000 in
theorem wm_t679 : Cond.selects "SoupCargo$Words" ⟨"SoupCargo$Words", "isOf", "(II)Z"⟩ ⟨"SoupCargo$Words", "isOf", "(II)Z"⟩ ∈ gT := gT_3 199 rfl rfl
set_option maxRecDepth 20000 in
theorem wm_t680 : Cond.code ⟨"SoupCargo$Words", "isOf", "(II)Z"⟩ prog_11_method_7_code 3 (Option.some Jvm.ClassFile.FieldType.boolean) ∈ gT := gT_3 200 rfl rfl
set_option maxRecDepth 20000 in
theorem wm_t682 : Cond.methodLink "SoupCargo$Laws" 31 ⟨"SoupCargo$Words", "isSo", "(I[I)Z"⟩ ∈ gT := gT_3 202 rfl rfl
set_option maxRecDepth 20000 in
theorem wm_t683 : Cond.instanceMethod ⟨"SoupCargo$Words", "isSo", "(I[I)Z"⟩ ∈ gT := gT_3 203 rfl rfl
set_option maxRecDepth 20000 in
theorem wm_t684 : Cond.selects "SoupCargo$Words" ⟨"SoupCargo$Words", "isSo", "(I[I)Z"⟩ ⟨"SoupCargo$Words", "isSo", "(I[I)Z"⟩ ∈ gT := gT_3 204 rfl rfl
set_option maxRecDepth 20000 in
theorem wm_t685 : Cond.code ⟨"SoupCargo$Words", "isSo", "(I[I)Z"⟩ prog_11_method_9_code 3 (Option.some Jvm.ClassFile.FieldType.boolean) ∈ gT := gT_3 205 rfl rfl
set_option maxRecDepth 20000 in
theorem wm_t686 : Cond.methodLink "SoupCargo$Words" 41 ⟨"SoupCargo$Words", "work", "(II[I)I"⟩ ∈ gT := gT_3 206 rfl rfl
set_option maxRecDepth 20000 in
theorem wm_t688 : Cond.instanceMethod ⟨"SoupCargo$Words", "work", "(II[I)I"⟩ ∈ gT := gT_3 208 rfl rfl
set_option maxRecDepth 20000 in
theorem wm_t689 : Cond.code ⟨"SoupCargo$Words", "work", "(II[I)I"⟩ prog_11_method_11_code 11 (Option.some Jvm.ClassFile.FieldType.int) ∈ gT := gT_3 209 rfl rfl
set_option maxRecDepth 20000 in
theorem wm_t690 : Cond.methodLink "SoupCargo$Laws" 35 ⟨"SoupCargo$Words", "valueOf", "(I[I)I"⟩ ∈ gT := gT_3 210 rfl rfl
set_option maxRecDepth 20000 in
theorem wm_t691 : Cond.instanceMethod ⟨"SoupCargo$Words", "valueOf", "(I[I)I"⟩ ∈ gT := gT_3 211 rfl rfl
set_option maxRecDepth 20000 in
theorem wm_t692 : Cond.selects "SoupCargo$Words" ⟨"SoupCargo$Words", "valueOf", "(I[I)I"⟩ ⟨"SoupCargo$Words", "valueOf", "(I[I)I"⟩ ∈ gT := gT_3 212 rfl rfl
set_option maxRecDepth 20000 in
theorem wm_t693 : Cond.code ⟨"SoupCargo$Words", "valueOf", "(I[I)I"⟩ prog_11_method_10_code 3 (Option.some Jvm.ClassFile.FieldType.int) ∈ gT := gT_3 213 rfl rfl
set_option maxRecDepth 20000 in
theorem wm_t695 : Cond.static ⟨"SoupCargo", "held", "(II)I"⟩ ∈ gT := gT_3 215 rfl rfl
set_option maxRecDepth 20000 in
theorem wm_t696 : Cond.code ⟨"SoupCargo", "held", "(II)I"⟩ prog_1_method_33_code 2 (Option.some Jvm.ClassFile.FieldType.int) ∈ gT := gT_3 216 rfl rfl
set_option maxRecDepth 20000 in
theorem wm_t697 : Cond.methodLink "SoupCargo" 314 ⟨"java/lang/Math", "min", "(II)I"⟩ ∈ gT := gT_3 217 rfl rfl
set_option maxRecDepth 20000 in
theorem wm_t698 : Cond.methodLink "SoupCargo" 242 ⟨"java/lang/Math", "max", "(II)I"⟩ ∈ gT := gT_3 218 rfl rfl
set_option maxRecDepth 20000 in
theorem wm_t699 : Cond.methodLink "SoupCargo" 179 ⟨"SoupCargo$Stacks", "sinkWater", "(LSoupCargo$Laws;)V"⟩ ∈ gT := gT_3 219 rfl rfl
set_option maxRecDepth 20000 in
theorem wm_t700 : Cond.instanceMethod ⟨"SoupCargo$Stacks", "sinkWater", "(LSoupCargo$Laws;)V"⟩ ∈ gT := gT_3 220 rfl rfl
set_option maxRecDepth 20000 in
theorem wm_t701 : Cond.selects "SoupCargo$Stacks" ⟨"SoupCargo$Stacks", "sinkWater", "(LSoupCargo$Laws;)V"⟩ ⟨"SoupCargo$Stacks", "sinkWater", "(LSoupCargo$Laws;)V"⟩ ∈ gT := gT_3 221 rfl rfl
set_option maxRecDepth 20000 in
theorem wm_t702 : Cond.code ⟨"SoupCargo$Stacks", "sinkWater", "(LSoupCargo$Laws;)V"⟩ prog_10_method_10_code 7 (Option.none : Option Jvm.ClassFile.FieldType) ∈ gT := gT_3 222 rfl rfl
set_option maxRecDepth 20000 in
theorem wm_t703 : Cond.methodLink "SoupCargo" 183 ⟨"SoupCargo$Sky", "swellAt", "(I)I"⟩ ∈ gT := gT_3 223 rfl rfl
set_option maxRecDepth 20000 in
theorem wm_t704 : Cond.instanceMethod ⟨"SoupCargo$Sky", "swellAt", "(I)I"⟩ ∈ gT := gT_3 224 rfl rfl
set_option maxRecDepth 20000 in
theorem wm_t705 : Cond.selects "SoupCargo$Sky" ⟨"SoupCargo$Sky", "swellAt", "(I)I"⟩ ⟨"SoupCargo$Sky", "swellAt", "(I)I"⟩ ∈ gT := gT_3 225 rfl rfl
set_option maxRecDepth 20000 in
theorem wm_t706 : Cond.code ⟨"SoupCargo$Sky", "swellAt", "(I)I"⟩ prog_9_method_4_code 2 (Option.some Jvm.ClassFile.FieldType.int) ∈ gT := gT_3 226 rfl rfl
set_option maxRecDepth 20000 in
theorem wm_t707 : Cond.methodLink "SoupCargo" 186 ⟨"SoupCargo$Ship", "passHour", "(LSoupCargo$Laws;II)V"⟩ ∈ gT := gT_3 227 rfl rfl
set_option maxRecDepth 20000 in
theorem wm_t708 : Cond.instanceMethod ⟨"SoupCargo$Ship", "passHour", "(LSoupCargo$Laws;II)V"⟩ ∈ gT := gT_3 228 rfl rfl
set_option maxRecDepth 20000 in
theorem wm_t709 : Cond.selects "SoupCargo$Ship" ⟨"SoupCargo$Ship", "passHour", "(LSoupCargo$Laws;II)V"⟩ ⟨"SoupCargo$Ship", "passHour", "(LSoupCargo$Laws;II)V"⟩ ∈ gT := gT_3 229 rfl rfl
set_option maxRecDepth 20000 in
theorem wm_t710 : Cond.code ⟨"SoupCargo$Ship", "passHour", "(LSoupCargo$Laws;II)V"⟩ prog_7_method_8_code 4 (Option.none : Option Jvm.ClassFile.FieldType) ∈ gT := gT_3 230 rfl rfl
set_option maxRecDepth 20000 in
theorem wm_t711 : Cond.methodLink "SoupCargo$Ship" 74 ⟨"SoupCargo$Stacks", "shake", "(I)V"⟩ ∈ gT := gT_3 231 rfl rfl
set_option maxRecDepth 20000 in
theorem wm_t712 : Cond.instanceMethod ⟨"SoupCargo$Stacks", "shake", "(I)V"⟩ ∈ gT := gT_3 232 rfl rfl
set_option maxRecDepth 20000 in
theorem wm_t713 : Cond.selects "SoupCargo$Stacks" ⟨"SoupCargo$Stacks", "shake", "(I)V"⟩ ⟨"SoupCargo$Stacks", "shake", "(I)V"⟩ ∈ gT := gT_3 233 rfl rfl
set_option maxRecDepth 20000 in
theorem wm_t714 : Cond.code ⟨"SoupCargo$Stacks", "shake", "(I)V"⟩ prog_10_method_12_code 3 (Option.none : Option Jvm.ClassFile.FieldType) ∈ gT := gT_3 234 rfl rfl
set_option maxRecDepth 20000 in
theorem wm_t715 : Cond.methodLink "SoupCargo$Ship" 78 ⟨"SoupCargo$Stacks", "sinkWater", "(LSoupCargo$Laws;)V"⟩ ∈ gT := gT_3 235 rfl rfl
set_option maxRecDepth 20000 in
theorem wm_t716 : Cond.methodLink "SoupCargo$Ship" 82 ⟨"SoupCargo$Stacks", "turnToSoup", "(LSoupCargo$Laws;)V"⟩ ∈ gT := gT_3 236 rfl rfl
set_option maxRecDepth 20000 in
theorem wm_t717 : Cond.instanceMethod ⟨"SoupCargo$Stacks", "turnToSoup", "(LSoupCargo$Laws;)V"⟩ ∈ gT := gT_3 237 rfl rfl
set_option maxRecDepth 20000 in
theorem wm_t718 : Cond.selects "SoupCargo$Stacks" ⟨"SoupCargo$Stacks", "turnToSoup", "(LSoupCargo$Laws;)V"⟩ ⟨"SoupCargo$Stacks", "turnToSoup", "(LSoupCargo$Laws;)V"⟩ ∈ gT := gT_3 238 rfl rfl
set_option maxRecDepth 20000 in
theorem wm_t719 : Cond.code ⟨"SoupCargo$Stacks", "turnToSoup", "(LSoupCargo$Laws;)V"⟩ prog_10_method_13_code 3 (Option.none : Option Jvm.ClassFile.FieldType) ∈ gT := gT_3 239 rfl rfl
set_option maxRecDepth 20000 in
theorem wm_t720 : Cond.methodLink "SoupCargo$Ship" 85 ⟨"SoupCargo$Ship", "leanNow", "()I"⟩ ∈ gT := gT_4 0 rfl rfl
set_option maxRecDepth 20000 in
theorem wm_t722 : Cond.instanceMethod ⟨"SoupCargo$Ship", "leanNow", "()I"⟩ ∈ gT := gT_4 2 rfl rfl
set_option maxRecDepth 20000 in
theorem wm_t723 : Cond.code ⟨"SoupCargo$Ship", "leanNow", "()I"⟩ prog_7_method_9_code 7 (Option.some Jvm.ClassFile.FieldType.int) ∈ gT := gT_4 3 rfl rfl
set_option maxRecDepth 20000 in
theorem wm_t724 : Cond.methodLink "SoupCargo$Ship" 98 ⟨"SoupCargo$Ship", "moment", "()I"⟩ ∈ gT := gT_4 4 rfl rfl
set_option maxRecDepth 20000 in
theorem wm_t725 : Cond.instanceMethod ⟨"SoupCargo$Ship", "moment", "()I"⟩ ∈ gT := gT_4 5 rfl rfl
set_option maxRecDepth 20000 in
theorem wm_t726 : Cond.selects "SoupCargo$Ship" ⟨"SoupCargo$Ship", "moment", "()I"⟩ ⟨"SoupCargo$Ship", "moment", "()I"⟩ ∈ gT := gT_4 6 rfl rfl
set_option maxRecDepth 20000 in
theorem wm_t727 : Cond.code ⟨"SoupCargo$Ship", "moment", "()I"⟩ prog_7_method_5_code 3 (Option.some Jvm.ClassFile.FieldType.int) ∈ gT := gT_4 7 rfl rfl
set_option maxRecDepth 20000 in
theorem wm_t728 : Cond.methodLink "SoupCargo$Ship" 64 ⟨"SoupCargo$Ship", "heft", "(I)I"⟩ ∈ gT := gT_4 8 rfl rfl
set_option maxRecDepth 20000 in
theorem wm_t730 : Cond.instanceMethod ⟨"SoupCargo$Ship", "heft", "(I)I"⟩ ∈ gT := gT_4 10 rfl rfl
set_option maxRecDepth 20000 in
theorem wm_t731 : Cond.code ⟨"SoupCargo$Ship", "heft", "(I)I"⟩ prog_7_method_7_code 2 (Option.some Jvm.ClassFile.FieldType.int) ∈ gT := gT_4 11 rfl rfl
set_option maxRecDepth 20000 in
theorem wm_t733 : Cond.static ⟨"SoupCargo", "columnArm", "(I)I"⟩ ∈ gT := gT_4 13 rfl rfl
set_option maxRecDepth 20000 in
theorem wm_t734 : Cond.code ⟨"SoupCargo", "columnArm", "(I)I"⟩ prog_1_method_38_code 1 (Option.some Jvm.ClassFile.FieldType.int) ∈ gT := gT_4 14 rfl rfl
set_option maxRecDepth 20000 in
theorem wm_t735 : Cond.methodLink "SoupCargo$Ship" 101 ⟨"SoupCargo$Ship", "weight", "()I"⟩ ∈ gT := gT_4 15 rfl rfl
set_option maxRecDepth 20000 in
theorem wm_t736 : Cond.instanceMethod ⟨"SoupCargo$Ship", "weight", "()I"⟩ ∈ gT := gT_4 16 rfl rfl
set_option maxRecDepth 20000 in
theorem wm_t737 : Cond.selects "SoupCargo$Ship" ⟨"SoupCargo$Ship", "weight", "()I"⟩ ⟨"SoupCargo$Ship", "weight", "()I"⟩ ∈ gT := gT_4 17 rfl rfl
set_option maxRecDepth 20000 in
theorem wm_t738 : Cond.code ⟨"SoupCargo$Ship", "weight", "()I"⟩ prog_7_method_6_code 3 (Option.some Jvm.ClassFile.FieldType.int) ∈ gT := gT_4 18 rfl rfl
set_option maxRecDepth 20000 in
theorem wm_t739 : Cond.constantLong "SoupCargo$Ship" 104 (200 : Int64) ∈ gT := gT_4 19 rfl rfl
set_option maxRecDepth 20000 in
theorem wm_t740 : Cond.methodLink "SoupCargo$Ship" 89 ⟨"java/lang/Math", "abs", "(I)I"⟩ ∈ gT := gT_4 20 rfl rfl
set_option maxRecDepth 20000 in
theorem wm_t741 : Cond.static ⟨"java/lang/Math", "abs", "(I)I"⟩ ∈ gT := gT_4 21 rfl rfl
set_option maxRecDepth 20000 in
theorem wm_t742 : Cond.code ⟨"java/lang/Math", "abs", "(I)I"⟩ prog_16_method_59_code 1 (Option.some Jvm.ClassFile.FieldType.int) ∈ gT := gT_4 22 rfl rfl
set_option maxRecDepth 20000 in
theorem wm_t743 : Cond.methodLink "SoupCargo$Ship" 106 ⟨"SoupCargo$Ship", "armTenths", "(I)I"⟩ ∈ gT := gT_4 23 rfl rfl
set_option maxRecDepth 20000 in
theorem wm_t744 : Cond.instanceMethod ⟨"SoupCargo$Ship", "armTenths", "(I)I"⟩ ∈ gT := gT_4 24 rfl rfl
set_option maxRecDepth 20000 in
theorem wm_t745 : Cond.selects "SoupCargo$Ship" ⟨"SoupCargo$Ship", "armTenths", "(I)I"⟩ ⟨"SoupCargo$Ship", "armTenths", "(I)I"⟩ ∈ gT := gT_4 25 rfl rfl
set_option maxRecDepth 20000 in
theorem wm_t746 : Cond.code ⟨"SoupCargo$Ship", "armTenths", "(I)I"⟩ prog_7_method_4_code 4 (Option.some Jvm.ClassFile.FieldType.int) ∈ gT := gT_4 26 rfl rfl
set_option maxRecDepth 20000 in
theorem wm_t748 : Cond.methodLink "SoupCargo$Ship" 55 ⟨"java/lang/Math", "min", "(II)I"⟩ ∈ gT := gT_4 28 rfl rfl
set_option maxRecDepth 20000 in
theorem wm_t749 : Cond.methodLink "SoupCargo$Ship" 92 ⟨"SoupCargo$Ship", "roll", "(I)I"⟩ ∈ gT := gT_4 29 rfl rfl
set_option maxRecDepth 20000 in
theorem wm_t751 : Cond.instanceMethod ⟨"SoupCargo$Ship", "roll", "(I)I"⟩ ∈ gT := gT_4 31 rfl rfl
set_option maxRecDepth 20000 in
theorem wm_t752 : Cond.code ⟨"SoupCargo$Ship", "roll", "(I)I"⟩ prog_7_method_10_code 2 (Option.some Jvm.ClassFile.FieldType.int) ∈ gT := gT_4 32 rfl rfl
set_option maxRecDepth 20000 in
theorem wm_t753 : Cond.constant "SoupCargo$Ship" 109 (1664525) ∈ gT := gT_4 33 rfl rfl
set_option maxRecDepth 20000 in
theorem wm_t754 : Cond.constant "SoupCargo$Ship" 110 (1013904223) ∈ gT := gT_4 34 rfl rfl
set_option maxRecDepth 20000 in
theorem wm_t755 : Cond.methodLink "SoupCargo$Ship" 95 ⟨"SoupCargo$Ship", "flow", "()V"⟩ ∈ gT := gT_4 35 rfl rfl
set_option maxRecDepth 20000 in
theorem wm_t757 : Cond.instanceMethod ⟨"SoupCargo$Ship", "flow", "()V"⟩ ∈ gT := gT_4 37 rfl rfl
set_option maxRecDepth 20000 in
theorem wm_t758 : Cond.code ⟨"SoupCargo$Ship", "flow", "()V"⟩ prog_7_method_11_code 6 (Option.none : Option Jvm.ClassFile.FieldType) ∈ gT := gT_4 38 rfl rfl
set_option maxRecDepth 20000 in
theorem wm_t759 : Cond.methodLink "SoupCargo$Ship" 111 ⟨"SoupCargo$Ship", "flowOver", "(II)V"⟩ ∈ gT := gT_4 39 rfl rfl
set_option maxRecDepth 20000 in
theorem wm_t761 : Cond.instanceMethod ⟨"SoupCargo$Ship", "flowOver", "(II)V"⟩ ∈ gT := gT_4 41 rfl rfl
set_option maxRecDepth 20000 in
theorem wm_t762 : Cond.code ⟨"SoupCargo$Ship", "flowOver", "(II)V"⟩ prog_7_method_12_code 4 (Option.none : Option Jvm.ClassFile.FieldType) ∈ gT := gT_4 42 rfl rfl
set_option maxRecDepth 20000 in
theorem wm_t763 : Cond.methodLink "SoupCargo$Ship" 115 ⟨"SoupCargo$Stacks", "height", "(I)I"⟩ ∈ gT := gT_4 43 rfl rfl
set_option maxRecDepth 20000 in
theorem wm_t764 : Cond.methodLink "SoupCargo$Ship" 118 ⟨"SoupCargo$Stacks", "topIsSoup", "(I)Z"⟩ ∈ gT := gT_4 44 rfl rfl
set_option maxRecDepth 20000 in
theorem wm_t765 : Cond.instanceMethod ⟨"SoupCargo$Stacks", "topIsSoup", "(I)Z"⟩ ∈ gT := gT_4 45 rfl rfl
set_option maxRecDepth 20000 in
theorem wm_t766 : Cond.selects "SoupCargo$Stacks" ⟨"SoupCargo$Stacks", "topIsSoup", "(I)Z"⟩ ⟨"SoupCargo$Stacks", "topIsSoup", "(I)Z"⟩ ∈ gT := gT_4 46 rfl rfl
set_option maxRecDepth 20000 in
theorem wm_t767 : Cond.code ⟨"SoupCargo$Stacks", "topIsSoup", "(I)Z"⟩ prog_10_method_14_code 3 (Option.some Jvm.ClassFile.FieldType.boolean) ∈ gT := gT_4 47 rfl rfl
set_option maxRecDepth 20000 in
theorem wm_t768 : Cond.methodLink "SoupCargo$Ship" 122 ⟨"SoupCargo$Stacks", "moveTop", "(ILSoupCargo$Stacks;I)Z"⟩ ∈ gT := gT_4 48 rfl rfl
set_option maxRecDepth 20000 in
theorem wm_t769 : Cond.instanceMethod ⟨"SoupCargo$Stacks", "moveTop", "(ILSoupCargo$Stacks;I)Z"⟩ ∈ gT := gT_4 49 rfl rfl
set_option maxRecDepth 20000 in
theorem wm_t770 : Cond.selects "SoupCargo$Stacks" ⟨"SoupCargo$Stacks", "moveTop", "(ILSoupCargo$Stacks;I)Z"⟩ ⟨"SoupCargo$Stacks", "moveTop", "(ILSoupCargo$Stacks;I)Z"⟩ ∈ gT := gT_4 50 rfl rfl
set_option maxRecDepth 20000 in
theorem wm_t771 : Cond.code ⟨"SoupCargo$Stacks", "moveTop", "(ILSoupCargo$Stacks;I)Z"⟩ prog_10_method_15_code 8 (Option.some Jvm.ClassFile.FieldType.boolean) ∈ gT := gT_4 51 rfl rfl
set_option maxRecDepth 20000 in
theorem wm_t772 : Cond.methodLink "SoupCargoLaw" 59 ⟨"SoupCargo", "load", "(IIII)Z"⟩ ∈ gT := gT_4 52 rfl rfl
set_option maxRecDepth 20000 in
theorem wm_t773 : Cond.instanceMethod ⟨"SoupCargo", "load", "(IIII)Z"⟩ ∈ gT := gT_4 53 rfl rfl
set_option maxRecDepth 20000 in
theorem wm_t774 : Cond.selects "SoupCargo" ⟨"SoupCargo", "load", "(IIII)Z"⟩ ⟨"SoupCargo", "load", "(IIII)Z"⟩ ∈ gT := gT_4 54 rfl rfl
set_option maxRecDepth 20000 in
theorem wm_t775 : Cond.code ⟨"SoupCargo", "load", "(IIII)Z"⟩ prog_1_method_12_code 7 (Option.some Jvm.ClassFile.FieldType.boolean) ∈ gT := gT_4 55 rfl rfl
set_option maxRecDepth 20000 in
theorem wm_t776 : Cond.methodLink "SoupCargo" 199 ⟨"SoupCargo$Stacks", "moveTop", "(ILSoupCargo$Stacks;I)Z"⟩ ∈ gT := gT_4 56 rfl rfl
set_option maxRecDepth 20000 in
theorem wm_t777 : Cond.methodLink "SoupCargoLaw" 64 ⟨"SoupCargo", "arm", "(II)Z"⟩ ∈ gT := gT_4 57 rfl rfl
set_option maxRecDepth 20000 in
theorem wm_t778 : Cond.instanceMethod ⟨"SoupCargo", "arm", "(II)Z"⟩ ∈ gT := gT_4 58 rfl rfl
set_option maxRecDepth 20000 in
theorem wm_t779 : Cond.selects "SoupCargo" ⟨"SoupCargo", "arm", "(II)Z"⟩ ⟨"SoupCargo", "arm", "(II)Z"⟩ ∈ gT := gT_4 59 rfl rfl
set_option maxRecDepth 20000 in
theorem wm_t780 : Cond.code ⟨"SoupCargo", "arm", "(II)Z"⟩ prog_1_method_13_code 3 (Option.some Jvm.ClassFile.FieldType.boolean) ∈ gT := gT_4 60 rfl rfl
set_option maxRecDepth 20000 in
theorem wm_t781 : Cond.methodLink "SoupCargo" 203 ⟨"SoupCargo$Ship", "tellArm", "(II)Z"⟩ ∈ gT := gT_4 61 rfl rfl
set_option maxRecDepth 20000 in
theorem wm_t782 : Cond.instanceMethod ⟨"SoupCargo$Ship", "tellArm", "(II)Z"⟩ ∈ gT := gT_4 62 rfl rfl
set_option maxRecDepth 20000 in
theorem wm_t783 : Cond.selects "SoupCargo$Ship" ⟨"SoupCargo$Ship", "tellArm", "(II)Z"⟩ ⟨"SoupCargo$Ship", "tellArm", "(II)Z"⟩ ∈ gT := gT_4 63 rfl rfl
set_option maxRecDepth 20000 in
theorem wm_t784 : Cond.code ⟨"SoupCargo$Ship", "tellArm", "(II)Z"⟩ prog_7_method_3_code 3 (Option.some Jvm.ClassFile.FieldType.boolean) ∈ gT := gT_4 64 rfl rfl
set_option maxRecDepth 20000 in
theorem wm_t785 : Cond.methodLink "SoupCargoLaw" 69 ⟨"SoupCargo", "sail", "(I)Z"⟩ ∈ gT := gT_4 65 rfl rfl
set_option maxRecDepth 20000 in
theorem wm_t786 : Cond.instanceMethod ⟨"SoupCargo", "sail", "(I)Z"⟩ ∈ gT := gT_4 66 rfl rfl
set_option maxRecDepth 20000 in
theorem wm_t787 : Cond.selects "SoupCargo" ⟨"SoupCargo", "sail", "(I)Z"⟩ ⟨"SoupCargo", "sail", "(I)Z"⟩ ∈ gT := gT_4 67 rfl rfl
set_option maxRecDepth 20000 in
theorem wm_t788 : Cond.code ⟨"SoupCargo", "sail", "(I)Z"⟩ prog_1_method_14_code 2 (Option.some Jvm.ClassFile.FieldType.boolean) ∈ gT := gT_4 68 rfl rfl
set_option maxRecDepth 20000 in
theorem wm_t789 : Cond.methodLink "SoupCargoLaw" 73 ⟨"SoupCargo", "ship", "(I)I"⟩ ∈ gT := gT_4 69 rfl rfl
set_option maxRecDepth 20000 in
theorem wm_t790 : Cond.instanceMethod ⟨"SoupCargo", "ship", "(I)I"⟩ ∈ gT := gT_4 70 rfl rfl
set_option maxRecDepth 20000 in
theorem wm_t791 : Cond.selects "SoupCargo" ⟨"SoupCargo", "ship", "(I)I"⟩ ⟨"SoupCargo", "ship", "(I)I"⟩ ∈ gT := gT_4 71 rfl rfl
set_option maxRecDepth 20000 in
theorem wm_t792 : Cond.code ⟨"SoupCargo", "ship", "(I)I"⟩ prog_1_method_15_code 2 (Option.some Jvm.ClassFile.FieldType.int) ∈ gT := gT_4 72 rfl rfl
set_option maxRecDepth 20000 in
theorem wm_t793 : Cond.methodLink "SoupCargo" 209 ⟨"SoupCargo$Ship", "moment", "()I"⟩ ∈ gT := gT_4 73 rfl rfl
set_option maxRecDepth 20000 in
theorem wm_t794 : Cond.methodLink "SoupCargo" 213 ⟨"SoupCargo$Ship", "weight", "()I"⟩ ∈ gT := gT_4 74 rfl rfl
set_option maxRecDepth 20000 in
theorem wm_t795 : Cond.methodLink "SoupCargo" 225 ⟨"SoupCargo$Stacks", "cellsWithOre", "()I"⟩ ∈ gT := gT_4 75 rfl rfl
set_option maxRecDepth 20000 in
theorem wm_t796 : Cond.instanceMethod ⟨"SoupCargo$Stacks", "cellsWithOre", "()I"⟩ ∈ gT := gT_4 76 rfl rfl
set_option maxRecDepth 20000 in
theorem wm_t797 : Cond.selects "SoupCargo$Stacks" ⟨"SoupCargo$Stacks", "cellsWithOre", "()I"⟩ ⟨"SoupCargo$Stacks", "cellsWithOre", "()I"⟩ ∈ gT := gT_4 77 rfl rfl
set_option maxRecDepth 20000 in
theorem wm_t798 : Cond.code ⟨"SoupCargo$Stacks", "cellsWithOre", "()I"⟩ prog_10_method_5_code 3 (Option.some Jvm.ClassFile.FieldType.int) ∈ gT := gT_4 78 rfl rfl
set_option maxRecDepth 20000 in
theorem wm_t799 : Cond.methodLink "SoupCargo" 228 ⟨"SoupCargo$Stacks", "cellsOfSoup", "()I"⟩ ∈ gT := gT_4 79 rfl rfl
set_option maxRecDepth 20000 in
theorem wm_t800 : Cond.instanceMethod ⟨"SoupCargo$Stacks", "cellsOfSoup", "()I"⟩ ∈ gT := gT_4 80 rfl rfl
set_option maxRecDepth 20000 in
theorem wm_t801 : Cond.selects "SoupCargo$Stacks" ⟨"SoupCargo$Stacks", "cellsOfSoup", "()I"⟩ ⟨"SoupCargo$Stacks", "cellsOfSoup", "()I"⟩ ∈ gT := gT_4 81 rfl rfl
set_option maxRecDepth 20000 in
theorem wm_t802 : Cond.code ⟨"SoupCargo$Stacks", "cellsOfSoup", "()I"⟩ prog_10_method_6_code 3 (Option.some Jvm.ClassFile.FieldType.int) ∈ gT := gT_4 82 rfl rfl
set_option maxRecDepth 20000 in
theorem wm_t803 : Cond.constant "SoupCargo" 231 (-1000000) ∈ gT := gT_4 83 rfl rfl
set_option maxRecDepth 20000 in
theorem wm_t804 : Cond.methodLink "SoupCargoLaw" 77 ⟨"SoupCargo", "arms", "(I)I"⟩ ∈ gT := gT_4 84 rfl rfl
set_option maxRecDepth 20000 in
theorem wm_t805 : Cond.instanceMethod ⟨"SoupCargo", "arms", "(I)I"⟩ ∈ gT := gT_4 85 rfl rfl
set_option maxRecDepth 20000 in
theorem wm_t806 : Cond.selects "SoupCargo" ⟨"SoupCargo", "arms", "(I)I"⟩ ⟨"SoupCargo", "arms", "(I)I"⟩ ∈ gT := gT_4 86 rfl rfl
set_option maxRecDepth 20000 in
theorem wm_t807 : Cond.code ⟨"SoupCargo", "arms", "(I)I"⟩ prog_1_method_16_code 2 (Option.some Jvm.ClassFile.FieldType.int) ∈ gT := gT_4 87 rfl rfl
set_option maxRecDepth 20000 in
theorem wm_t808 : Cond.methodLink "SoupCargo" 232 ⟨"SoupCargo$Ship", "armTenths", "(I)I"⟩ ∈ gT := gT_4 88 rfl rfl
set_option maxRecDepth 20000 in
theorem wm_t809 : Cond.methodLink "SoupCargoLaw" 81 ⟨"SoupCargo", "told", "(IIIII)I"⟩ ∈ gT := gT_4 89 rfl rfl
set_option maxRecDepth 20000 in
theorem wm_t810 : Cond.instanceMethod ⟨"SoupCargo", "told", "(IIIII)I"⟩ ∈ gT := gT_4 90 rfl rfl
set_option maxRecDepth 20000 in
theorem wm_t811 : Cond.selects "SoupCargo" ⟨"SoupCargo", "told", "(IIIII)I"⟩ ⟨"SoupCargo", "told", "(IIIII)I"⟩ ∈ gT := gT_4 91 rfl rfl
set_option maxRecDepth 20000 in
theorem wm_t812 : Cond.code ⟨"SoupCargo", "told", "(IIIII)I"⟩ prog_1_method_17_code 8 (Option.some Jvm.ClassFile.FieldType.int) ∈ gT := gT_4 92 rfl rfl
set_option maxRecDepth 20000 in
theorem wm_t813 : Cond.methodLink "SoupCargo" 235 ⟨"SoupCargo$Stacks", "lawOf", "(LSoupCargo$Laws;II)I"⟩ ∈ gT := gT_4 93 rfl rfl
set_option maxRecDepth 20000 in
theorem wm_t814 : Cond.methodLink "SoupCargoLaw" 85 ⟨"SoupCargo", "split", "(II)I"⟩ ∈ gT := gT_4 94 rfl rfl
set_option maxRecDepth 20000 in
theorem wm_t815 : Cond.instanceMethod ⟨"SoupCargo", "split", "(II)I"⟩ ∈ gT := gT_4 95 rfl rfl
set_option maxRecDepth 20000 in
theorem wm_t816 : Cond.selects "SoupCargo" ⟨"SoupCargo", "split", "(II)I"⟩ ⟨"SoupCargo", "split", "(II)I"⟩ ∈ gT := gT_4 96 rfl rfl
set_option maxRecDepth 20000 in
theorem wm_t817 : Cond.code ⟨"SoupCargo", "split", "(II)I"⟩ prog_1_method_18_code 11 (Option.some Jvm.ClassFile.FieldType.int) ∈ gT := gT_4 97 rfl rfl
set_option maxRecDepth 20000 in
theorem wm_t818 : Cond.methodLink "SoupCargo" 239 ⟨"SoupCargo", "worstOf", "(I)I"⟩ ∈ gT := gT_4 98 rfl rfl
set_option maxRecDepth 20000 in
theorem wm_t819 : Cond.static ⟨"SoupCargo", "worstOf", "(I)I"⟩ ∈ gT := gT_4 99 rfl rfl
set_option maxRecDepth 20000 in
theorem wm_t820 : Cond.code ⟨"SoupCargo", "worstOf", "(I)I"⟩ prog_1_method_39_code 2 (Option.some Jvm.ClassFile.FieldType.int) ∈ gT := gT_4 100 rfl rfl
set_option maxRecDepth 20000 in
theorem wm_t821 : Cond.methodLink "SoupCargo" 317 ⟨"SoupCargo", "columnArm", "(I)I"⟩ ∈ gT := gT_4 101 rfl rfl
set_option maxRecDepth 20000 in
theorem wm_t822 : Cond.methodLink "SoupCargoLaw" 90 ⟨"SoupCargo", "can", "(III)I"⟩ ∈ gT := gT_4 102 rfl rfl
set_option maxRecDepth 20000 in
theorem wm_t823 : Cond.instanceMethod ⟨"SoupCargo", "can", "(III)I"⟩ ∈ gT := gT_4 103 rfl rfl
set_option maxRecDepth 20000 in
theorem wm_t824 : Cond.selects "SoupCargo" ⟨"SoupCargo", "can", "(III)I"⟩ ⟨"SoupCargo", "can", "(III)I"⟩ ∈ gT := gT_4 104 rfl rfl
set_option maxRecDepth 20000 in
theorem wm_t825 : Cond.code ⟨"SoupCargo", "can", "(III)I"⟩ prog_1_method_19_code 5 (Option.some Jvm.ClassFile.FieldType.int) ∈ gT := gT_4 105 rfl rfl
set_option maxRecDepth 20000 in
theorem wm_t826 : Cond.methodLink "SoupCargo" 248 ⟨"SoupCargo$Cans", "fill", "(III)I"⟩ ∈ gT := gT_4 106 rfl rfl
set_option maxRecDepth 20000 in
theorem wm_t827 : Cond.instanceMethod ⟨"SoupCargo$Cans", "fill", "(III)I"⟩ ∈ gT := gT_4 107 rfl rfl
set_option maxRecDepth 20000 in
theorem wm_t828 : Cond.selects "SoupCargo$Cans" ⟨"SoupCargo$Cans", "fill", "(III)I"⟩ ⟨"SoupCargo$Cans", "fill", "(III)I"⟩ ∈ gT := gT_4 108 rfl rfl
set_option maxRecDepth 20000 in
theorem wm_t829 : Cond.code ⟨"SoupCargo$Cans", "fill", "(III)I"⟩ prog_2_method_2_code 4 (Option.some Jvm.ClassFile.FieldType.int) ∈ gT := gT_4 109 rfl rfl
set_option maxRecDepth 20000 in
theorem wm_t830 : Cond.methodLink "SoupCargoLaw" 95 ⟨"SoupCargo", "step", "(I)Z"⟩ ∈ gT := gT_4 110 rfl rfl
set_option maxRecDepth 20000 in
theorem wm_t831 : Cond.instanceMethod ⟨"SoupCargo", "step", "(I)Z"⟩ ∈ gT := gT_4 111 rfl rfl
set_option maxRecDepth 20000 in
theorem wm_t832 : Cond.selects "SoupCargo" ⟨"SoupCargo", "step", "(I)Z"⟩ ⟨"SoupCargo", "step", "(I)Z"⟩ ∈ gT := gT_4 112 rfl rfl
set_option maxRecDepth 20000 in
theorem wm_t833 : Cond.code ⟨"SoupCargo", "step", "(I)Z"⟩ prog_1_method_20_code 2 (Option.some Jvm.ClassFile.FieldType.boolean) ∈ gT := gT_4 113 rfl rfl
set_option maxRecDepth 20000 in
theorem wm_t834 : Cond.methodLink "SoupCargoLaw" 99 ⟨"SoupCargo", "span", "(IIIII)I"⟩ ∈ gT := gT_4 114 rfl rfl
set_option maxRecDepth 20000 in
theorem wm_t835 : Cond.instanceMethod ⟨"SoupCargo", "span", "(IIIII)I"⟩ ∈ gT := gT_4 115 rfl rfl
set_option maxRecDepth 20000 in
theorem wm_t836 : Cond.selects "SoupCargo" ⟨"SoupCargo", "span", "(IIIII)I"⟩ ⟨"SoupCargo", "span", "(IIIII)I"⟩ ∈ gT := gT_4 116 rfl rfl
set_option maxRecDepth 20000 in
theorem wm_t837 : Cond.code ⟨"SoupCargo", "span", "(IIIII)I"⟩ prog_1_method_21_code 7 (Option.some Jvm.ClassFile.FieldType.int) ∈ gT := gT_4 117 rfl rfl
set_option maxRecDepth 20000 in
theorem wm_t838 : Cond.methodLink "SoupCargo" 254 ⟨"SoupCargo$Cans", "least", "(II)I"⟩ ∈ gT := gT_4 118 rfl rfl
set_option maxRecDepth 20000 in
theorem wm_t839 : Cond.instanceMethod ⟨"SoupCargo$Cans", "least", "(II)I"⟩ ∈ gT := gT_4 119 rfl rfl
set_option maxRecDepth 20000 in
theorem wm_t840 : Cond.selects "SoupCargo$Cans" ⟨"SoupCargo$Cans", "least", "(II)I"⟩ ⟨"SoupCargo$Cans", "least", "(II)I"⟩ ∈ gT := gT_4 120 rfl rfl
set_option maxRecDepth 20000 in
theorem wm_t841 : Cond.code ⟨"SoupCargo$Cans", "least", "(II)I"⟩ prog_2_method_5_code 5 (Option.some Jvm.ClassFile.FieldType.int) ∈ gT := gT_4 121 rfl rfl
set_option maxRecDepth 20000 in
theorem wm_t842 : Cond.methodLink "SoupCargo$Cans" 38 ⟨"SoupCargo$Cans", "distance", "(II)I"⟩ ∈ gT := gT_4 122 rfl rfl
set_option maxRecDepth 20000 in
theorem wm_t843 : Cond.static ⟨"SoupCargo$Cans", "distance", "(II)I"⟩ ∈ gT := gT_4 123 rfl rfl
set_option maxRecDepth 20000 in
theorem wm_t844 : Cond.code ⟨"SoupCargo$Cans", "distance", "(II)I"⟩ prog_2_method_8_code 5 (Option.some Jvm.ClassFile.FieldType.int) ∈ gT := gT_4 124 rfl rfl
set_option maxRecDepth 20000 in
theorem wm_t845 : Cond.methodLink "SoupCargo$Cans" 55 ⟨"java/lang/Math", "abs", "(I)I"⟩ ∈ gT := gT_4 125 rfl rfl
set_option maxRecDepth 20000 in
theorem wm_t846 : Cond.methodLink "SoupCargo$Cans" 41 ⟨"java/lang/Math", "max", "(II)I"⟩ ∈ gT := gT_4 126 rfl rfl
set_option maxRecDepth 20000 in
theorem wm_t847 : Cond.methodLink "SoupCargo$Cans" 32 ⟨"java/lang/Math", "min", "(II)I"⟩ ∈ gT := gT_4 127 rfl rfl
set_option maxRecDepth 20000 in
theorem wm_t848 : Cond.methodLink "SoupCargo" 257 ⟨"SoupCargo$Cans", "greatest", "(II)I"⟩ ∈ gT := gT_4 128 rfl rfl
set_option maxRecDepth 20000 in
theorem wm_t849 : Cond.instanceMethod ⟨"SoupCargo$Cans", "greatest", "(II)I"⟩ ∈ gT := gT_4 129 rfl rfl
set_option maxRecDepth 20000 in
theorem wm_t850 : Cond.selects "SoupCargo$Cans" ⟨"SoupCargo$Cans", "greatest", "(II)I"⟩ ⟨"SoupCargo$Cans", "greatest", "(II)I"⟩ ∈ gT := gT_4 130 rfl rfl
set_option maxRecDepth 20000 in
theorem wm_t851 : Cond.code ⟨"SoupCargo$Cans", "greatest", "(II)I"⟩ prog_2_method_6_code 5 (Option.some Jvm.ClassFile.FieldType.int) ∈ gT := gT_4 131 rfl rfl
set_option maxRecDepth 20000 in
theorem wm_t852 : Cond.methodLink "SoupCargoLaw" 103 ⟨"SoupCargo", "mean", "(II)I"⟩ ∈ gT := gT_4 132 rfl rfl
set_option maxRecDepth 20000 in
theorem wm_t853 : Cond.instanceMethod ⟨"SoupCargo", "mean", "(II)I"⟩ ∈ gT := gT_4 133 rfl rfl
set_option maxRecDepth 20000 in
theorem wm_t854 : Cond.selects "SoupCargo" ⟨"SoupCargo", "mean", "(II)I"⟩ ⟨"SoupCargo", "mean", "(II)I"⟩ ∈ gT := gT_4 134 rfl rfl
set_option maxRecDepth 20000 in
theorem wm_t855 : Cond.code ⟨"SoupCargo", "mean", "(II)I"⟩ prog_1_method_22_code 4 (Option.some Jvm.ClassFile.FieldType.int) ∈ gT := gT_4 135 rfl rfl
set_option maxRecDepth 20000 in
theorem wm_t856 : Cond.methodLink "SoupCargo" 260 ⟨"SoupCargo$Cans", "meanEnd", "(LSoupCargo$Stacks;IZ)I"⟩ ∈ gT := gT_4 136 rfl rfl
set_option maxRecDepth 20000 in
theorem wm_t857 : Cond.instanceMethod ⟨"SoupCargo$Cans", "meanEnd", "(LSoupCargo$Stacks;IZ)I"⟩ ∈ gT := gT_4 137 rfl rfl
set_option maxRecDepth 20000 in
theorem wm_t858 : Cond.selects "SoupCargo$Cans" ⟨"SoupCargo$Cans", "meanEnd", "(LSoupCargo$Stacks;IZ)I"⟩ ⟨"SoupCargo$Cans", "meanEnd", "(LSoupCargo$Stacks;IZ)I"⟩ ∈ gT := gT_4 138 rfl rfl
set_option maxRecDepth 20000 in
theorem wm_t859 : Cond.code ⟨"SoupCargo$Cans", "meanEnd", "(LSoupCargo$Stacks;IZ)I"⟩ prog_2_method_7_code 7 (Option.some Jvm.ClassFile.FieldType.int) ∈ gT := gT_4 139 rfl rfl
set_option maxRecDepth 20000 in
theorem wm_t860 : Cond.methodLink "SoupCargo$Cans" 49 ⟨"SoupCargo$Cans", "greatest", "(II)I"⟩ ∈ gT := gT_4 140 rfl rfl
set_option maxRecDepth 20000 in
theorem wm_t861 : Cond.methodLink "SoupCargo$Cans" 52 ⟨"SoupCargo$Cans", "least", "(II)I"⟩ ∈ gT := gT_4 141 rfl rfl
set_option maxRecDepth 20000 in
theorem wm_t862 : Cond.methodLink "SoupCargoLaw" 107 ⟨"SoupCargo", "paper", "(I)Z"⟩ ∈ gT := gT_4 142 rfl rfl
set_option maxRecDepth 20000 in
theorem wm_t863 : Cond.instanceMethod ⟨"SoupCargo", "paper", "(I)Z"⟩ ∈ gT := gT_4 143 rfl rfl
set_option maxRecDepth 20000 in
theorem wm_t864 : Cond.selects "SoupCargo" ⟨"SoupCargo", "paper", "(I)Z"⟩ ⟨"SoupCargo", "paper", "(I)Z"⟩ ∈ gT := gT_4 144 rfl rfl
set_option maxRecDepth 20000 in
theorem wm_t865 : Cond.code ⟨"SoupCargo", "paper", "(I)Z"⟩ prog_1_method_23_code 2 (Option.some Jvm.ClassFile.FieldType.boolean) ∈ gT := gT_4 145 rfl rfl
set_option maxRecDepth 20000 in
theorem wm_t866 : Cond.methodLink "SoupCargoLaw" 111 ⟨"SoupCargo", "place", "(IIII)Z"⟩ ∈ gT := gT_4 146 rfl rfl
set_option maxRecDepth 20000 in
theorem wm_t867 : Cond.instanceMethod ⟨"SoupCargo", "place", "(IIII)Z"⟩ ∈ gT := gT_4 147 rfl rfl
set_option maxRecDepth 20000 in
theorem wm_t868 : Cond.selects "SoupCargo" ⟨"SoupCargo", "place", "(IIII)Z"⟩ ⟨"SoupCargo", "place", "(IIII)Z"⟩ ∈ gT := gT_4 148 rfl rfl
set_option maxRecDepth 20000 in
theorem wm_t869 : Cond.code ⟨"SoupCargo", "place", "(IIII)Z"⟩ prog_1_method_24_code 6 (Option.some Jvm.ClassFile.FieldType.boolean) ∈ gT := gT_4 149 rfl rfl
set_option maxRecDepth 20000 in
theorem wm_t870 : Cond.methodLink "SoupCargo" 264 ⟨"SoupCargo$Places", "tell", "(II)Z"⟩ ∈ gT := gT_4 150 rfl rfl
set_option maxRecDepth 20000 in
theorem wm_t871 : Cond.instanceMethod ⟨"SoupCargo$Places", "tell", "(II)Z"⟩ ∈ gT := gT_4 151 rfl rfl
set_option maxRecDepth 20000 in
theorem wm_t872 : Cond.selects "SoupCargo$Places" ⟨"SoupCargo$Places", "tell", "(II)Z"⟩ ⟨"SoupCargo$Places", "tell", "(II)Z"⟩ ∈ gT := gT_4 152 rfl rfl
set_option maxRecDepth 20000 in
theorem wm_t873 : Cond.code ⟨"SoupCargo$Places", "tell", "(II)Z"⟩ prog_5_method_2_code 3 (Option.some Jvm.ClassFile.FieldType.boolean) ∈ gT := gT_4 153 rfl rfl
set_option maxRecDepth 20000 in
theorem wm_t875 : Cond.methodLink "SoupCargoLaw" 115 ⟨"SoupCargo", "fair", "(I)I"⟩ ∈ gT := gT_4 155 rfl rfl
set_option maxRecDepth 20000 in
theorem wm_t876 : Cond.instanceMethod ⟨"SoupCargo", "fair", "(I)I"⟩ ∈ gT := gT_4 156 rfl rfl
set_option maxRecDepth 20000 in
theorem wm_t877 : Cond.selects "SoupCargo" ⟨"SoupCargo", "fair", "(I)I"⟩ ⟨"SoupCargo", "fair", "(I)I"⟩ ∈ gT := gT_4 157 rfl rfl
set_option maxRecDepth 20000 in
theorem wm_t878 : Cond.code ⟨"SoupCargo", "fair", "(I)I"⟩ prog_1_method_25_code 2 (Option.some Jvm.ClassFile.FieldType.int) ∈ gT := gT_4 158 rfl rfl
set_option maxRecDepth 20000 in
theorem wm_t879 : Cond.methodLink "SoupCargo" 266 ⟨"SoupCargo$Places", "fewest", "(LSoupCargo$Stacks;I)I"⟩ ∈ gT := gT_4 159 rfl rfl
set_option maxRecDepth 20000 in
theorem wm_t880 : Cond.instanceMethod ⟨"SoupCargo$Places", "fewest", "(LSoupCargo$Stacks;I)I"⟩ ∈ gT := gT_4 160 rfl rfl
set_option maxRecDepth 20000 in
theorem wm_t881 : Cond.selects "SoupCargo$Places" ⟨"SoupCargo$Places", "fewest", "(LSoupCargo$Stacks;I)I"⟩ ⟨"SoupCargo$Places", "fewest", "(LSoupCargo$Stacks;I)I"⟩ ∈ gT := gT_4 161 rfl rfl
set_option maxRecDepth 20000 in
theorem wm_t882 : Cond.code ⟨"SoupCargo$Places", "fewest", "(LSoupCargo$Stacks;I)I"⟩ prog_5_method_3_code 6 (Option.some Jvm.ClassFile.FieldType.int) ∈ gT := gT_4 162 rfl rfl
set_option maxRecDepth 20000 in
theorem wm_t883 : Cond.methodLink "SoupCargo$Places" 23 ⟨"SoupCargo$Places", "findNeeded", "(LSoupCargo$Stacks;I)V"⟩ ∈ gT := gT_4 163 rfl rfl
set_option maxRecDepth 20000 in
theorem wm_t885 : Cond.instanceMethod ⟨"SoupCargo$Places", "findNeeded", "(LSoupCargo$Stacks;I)V"⟩ ∈ gT := gT_4 165 rfl rfl
set_option maxRecDepth 20000 in
theorem wm_t886 : Cond.code ⟨"SoupCargo$Places", "findNeeded", "(LSoupCargo$Stacks;I)V"⟩ prog_5_method_4_code 4 (Option.none : Option Jvm.ClassFile.FieldType) ∈ gT := gT_4 166 rfl rfl
set_option maxRecDepth 20000 in
theorem wm_t887 : Cond.methodLink "SoupCargo$Places" 42 ⟨"SoupCargo$Places", "nearTo", "(II)I"⟩ ∈ gT := gT_4 167 rfl rfl
set_option maxRecDepth 20000 in
theorem wm_t889 : Cond.instanceMethod ⟨"SoupCargo$Places", "nearTo", "(II)I"⟩ ∈ gT := gT_4 169 rfl rfl
set_option maxRecDepth 20000 in
theorem wm_t890 : Cond.code ⟨"SoupCargo$Places", "nearTo", "(II)I"⟩ prog_5_method_5_code 5 (Option.some Jvm.ClassFile.FieldType.int) ∈ gT := gT_4 170 rfl rfl
set_option maxRecDepth 20000 in
theorem wm_t891 : Cond.methodLink "SoupCargo$Places" 46 ⟨"SoupCargo$Cans", "distance", "(II)I"⟩ ∈ gT := gT_4 171 rfl rfl
set_option maxRecDepth 20000 in
theorem wm_t892 : Cond.methodLink "SoupCargo$Places" 27 ⟨"java/lang/Integer", "bitCount", "(I)I"⟩ ∈ gT := gT_4 172 rfl rfl
set_option maxRecDepth 20000 in
theorem wm_t893 : Cond.static ⟨"java/lang/Integer", "bitCount", "(I)I"⟩ ∈ gT := gT_4 173 rfl rfl
set_option maxRecDepth 20000 in
theorem wm_t894 : Cond.code ⟨"java/lang/Integer", "bitCount", "(I)I"⟩ prog_15_method_49_code 1 (Option.some Jvm.ClassFile.FieldType.int) ∈ gT := gT_4 174 rfl rfl
set_option maxRecDepth 20000 in
theorem wm_t895 : Cond.constant "java/lang/Integer" 265 (1431655765) ∈ gT := gT_4 175 rfl rfl
set_option maxRecDepth 20000 in
theorem wm_t896 : Cond.constant "java/lang/Integer" 266 (858993459) ∈ gT := gT_4 176 rfl rfl
set_option maxRecDepth 20000 in
theorem wm_t897 : Cond.constant "java/lang/Integer" 267 (252645135) ∈ gT := gT_4 177 rfl rfl
set_option maxRecDepth 20000 in
theorem wm_t898 : Cond.methodLink "SoupCargo$Places" 33 ⟨"SoupCargo$Places", "isFair", "(I)Z"⟩ ∈ gT := gT_4 178 rfl rfl
set_option maxRecDepth 20000 in
theorem wm_t900 : Cond.instanceMethod ⟨"SoupCargo$Places", "isFair", "(I)Z"⟩ ∈ gT := gT_4 180 rfl rfl
set_option maxRecDepth 20000 in
theorem wm_t901 : Cond.code ⟨"SoupCargo$Places", "isFair", "(I)Z"⟩ prog_5_method_6_code 3 (Option.some Jvm.ClassFile.FieldType.boolean) ∈ gT := gT_4 181 rfl rfl
set_option maxRecDepth 20000 in
theorem wm_t902 : Cond.methodLink "SoupCargoLaw" 119 ⟨"SoupCargo", "may", "(II)I"⟩ ∈ gT := gT_4 182 rfl rfl
set_option maxRecDepth 20000 in
theorem wm_t903 : Cond.instanceMethod ⟨"SoupCargo", "may", "(II)I"⟩ ∈ gT := gT_4 183 rfl rfl
set_option maxRecDepth 20000 in
theorem wm_t904 : Cond.selects "SoupCargo" ⟨"SoupCargo", "may", "(II)I"⟩ ⟨"SoupCargo", "may", "(II)I"⟩ ∈ gT := gT_4 184 rfl rfl
set_option maxRecDepth 20000 in
theorem wm_t905 : Cond.code ⟨"SoupCargo", "may", "(II)I"⟩ prog_1_method_26_code 3 (Option.some Jvm.ClassFile.FieldType.int) ∈ gT := gT_4 185 rfl rfl
set_option maxRecDepth 20000 in
theorem wm_t906 : Cond.methodLink "SoupCargo" 270 ⟨"SoupCargo$Cans", "lastWet", "()I"⟩ ∈ gT := gT_4 186 rfl rfl
set_option maxRecDepth 20000 in
theorem wm_t907 : Cond.instanceMethod ⟨"SoupCargo$Cans", "lastWet", "()I"⟩ ∈ gT := gT_4 187 rfl rfl
set_option maxRecDepth 20000 in
theorem wm_t908 : Cond.selects "SoupCargo$Cans" ⟨"SoupCargo$Cans", "lastWet", "()I"⟩ ⟨"SoupCargo$Cans", "lastWet", "()I"⟩ ∈ gT := gT_4 188 rfl rfl
set_option maxRecDepth 20000 in
theorem wm_t909 : Cond.code ⟨"SoupCargo$Cans", "lastWet", "()I"⟩ prog_2_method_3_code 1 (Option.some Jvm.ClassFile.FieldType.int) ∈ gT := gT_4 189 rfl rfl
set_option maxRecDepth 20000 in
theorem wm_t911 : Cond.methodLink "SoupCargo" 273 ⟨"SoupCargo$Cans", "age", "(I)I"⟩ ∈ gT := gT_4 191 rfl rfl
set_option maxRecDepth 20000 in
theorem wm_t912 : Cond.instanceMethod ⟨"SoupCargo$Cans", "age", "(I)I"⟩ ∈ gT := gT_4 192 rfl rfl
set_option maxRecDepth 20000 in
theorem wm_t913 : Cond.selects "SoupCargo$Cans" ⟨"SoupCargo$Cans", "age", "(I)I"⟩ ⟨"SoupCargo$Cans", "age", "(I)I"⟩ ∈ gT := gT_4 193 rfl rfl
set_option maxRecDepth 20000 in
theorem wm_t914 : Cond.code ⟨"SoupCargo$Cans", "age", "(I)I"⟩ prog_2_method_4_code 2 (Option.some Jvm.ClassFile.FieldType.int) ∈ gT := gT_4 194 rfl rfl
set_option maxRecDepth 20000 in
theorem wm_t915 : Cond.methodLink "SoupCargo" 276 ⟨"SoupCargo$Code", "setPapers", "(IIII)V"⟩ ∈ gT := gT_4 195 rfl rfl
set_option maxRecDepth 20000 in
theorem wm_t916 : Cond.instanceMethod ⟨"SoupCargo$Code", "setPapers", "(IIII)V"⟩ ∈ gT := gT_4 196 rfl rfl
set_option maxRecDepth 20000 in
theorem wm_t917 : Cond.selects "SoupCargo$Code" ⟨"SoupCargo$Code", "setPapers", "(IIII)V"⟩ ⟨"SoupCargo$Code", "setPapers", "(IIII)V"⟩ ∈ gT := gT_4 197 rfl rfl
set_option maxRecDepth 20000 in
theorem wm_t918 : Cond.code ⟨"SoupCargo$Code", "setPapers", "(IIII)V"⟩ prog_3_method_2_code 5 (Option.none : Option Jvm.ClassFile.FieldType) ∈ gT := gT_4 198 rfl rfl
set_option maxRecDepth 20000 in
theorem wm_t919 : Cond.methodLink "SoupCargo" 280 ⟨"SoupCargo$Code", "setVoyage", "(IIII)V"⟩ ∈ gT := gT_4 199 rfl rfl
set_option maxRecDepth 20000 in
theorem wm_t920 : Cond.instanceMethod ⟨"SoupCargo$Code", "setVoyage", "(IIII)V"⟩ ∈ gT := gT_4 200 rfl rfl
set_option maxRecDepth 20000 in
theorem wm_t921 : Cond.selects "SoupCargo$Code" ⟨"SoupCargo$Code", "setVoyage", "(IIII)V"⟩ ⟨"SoupCargo$Code", "setVoyage", "(IIII)V"⟩ ∈ gT := gT_4 201 rfl rfl
set_option maxRecDepth 20000 in
theorem wm_t922 : Cond.code ⟨"SoupCargo$Code", "setVoyage", "(IIII)V"⟩ prog_3_method_3_code 5 (Option.none : Option Jvm.ClassFile.FieldType) ∈ gT := gT_4 202 rfl rfl
set_option maxRecDepth 20000 in
theorem wm_t923 : Cond.methodLink "SoupCargo" 283 ⟨"SoupCargo$Code", "someLine", "(II)Z"⟩ ∈ gT := gT_4 203 rfl rfl
set_option maxRecDepth 20000 in
theorem wm_t924 : Cond.instanceMethod ⟨"SoupCargo$Code", "someLine", "(II)Z"⟩ ∈ gT := gT_4 204 rfl rfl
set_option maxRecDepth 20000 in
theorem wm_t925 : Cond.selects "SoupCargo$Code" ⟨"SoupCargo$Code", "someLine", "(II)Z"⟩ ⟨"SoupCargo$Code", "someLine", "(II)Z"⟩ ∈ gT := gT_4 205 rfl rfl
set_option maxRecDepth 20000 in
theorem wm_t926 : Cond.code ⟨"SoupCargo$Code", "someLine", "(II)Z"⟩ prog_3_method_4_code 4 (Option.some Jvm.ClassFile.FieldType.boolean) ∈ gT := gT_4 206 rfl rfl
set_option maxRecDepth 20000 in
theorem wm_t927 : Cond.methodLink "SoupCargo$Code" 32 ⟨"SoupCargo$Words", "isOf", "(II)Z"⟩ ∈ gT := gT_4 207 rfl rfl
set_option maxRecDepth 20000 in
theorem wm_t928 : Cond.methodLink "SoupCargo$Code" 36 ⟨"SoupCargo$Words", "isFor", "(II)Z"⟩ ∈ gT := gT_4 208 rfl rfl
set_option maxRecDepth 20000 in
theorem wm_t929 : Cond.instanceMethod ⟨"SoupCargo$Words", "isFor", "(II)Z"⟩ ∈ gT := gT_4 209 rfl rfl
set_option maxRecDepth 20000 in
theorem wm_t930 : Cond.selects "SoupCargo$Words" ⟨"SoupCargo$Words", "isFor", "(II)Z"⟩ ⟨"SoupCargo$Words", "isFor", "(II)Z"⟩ ∈ gT := gT_4 210 rfl rfl
set_option maxRecDepth 20000 in
theorem wm_t931 : Cond.code ⟨"SoupCargo$Words", "isFor", "(II)Z"⟩ prog_11_method_8_code 3 (Option.some Jvm.ClassFile.FieldType.boolean) ∈ gT := gT_4 211 rfl rfl
set_option maxRecDepth 20000 in
theorem wm_t932 : Cond.methodLink "SoupCargo$Code" 39 ⟨"SoupCargo$Words", "isSo", "(I[I)Z"⟩ ∈ gT := gT_4 212 rfl rfl
set_option maxRecDepth 20000 in
theorem wm_t933 : Cond.methodLink "SoupCargoLaw" 123 ⟨"SoupCargo", "let", "(II)I"⟩ ∈ gT := gT_4 213 rfl rfl
set_option maxRecDepth 20000 in
theorem wm_t934 : Cond.instanceMethod ⟨"SoupCargo", "let", "(II)I"⟩ ∈ gT := gT_4 214 rfl rfl
set_option maxRecDepth 20000 in
theorem wm_t935 : Cond.selects "SoupCargo" ⟨"SoupCargo", "let", "(II)I"⟩ ⟨"SoupCargo", "let", "(II)I"⟩ ∈ gT := gT_4 215 rfl rfl
set_option maxRecDepth 20000 in
theorem wm_t936 : Cond.code ⟨"SoupCargo", "let", "(II)I"⟩ prog_1_method_27_code 3 (Option.some Jvm.ClassFile.FieldType.int) ∈ gT := gT_4 216 rfl rfl
set_option maxRecDepth 20000 in
theorem wm_t937 : Cond.methodLink "SoupCargo" 286 ⟨"SoupCargo$Code", "findWays", "()V"⟩ ∈ gT := gT_4 217 rfl rfl
set_option maxRecDepth 20000 in
theorem wm_t938 : Cond.instanceMethod ⟨"SoupCargo$Code", "findWays", "()V"⟩ ∈ gT := gT_4 218 rfl rfl
set_option maxRecDepth 20000 in
theorem wm_t939 : Cond.selects "SoupCargo$Code" ⟨"SoupCargo$Code", "findWays", "()V"⟩ ⟨"SoupCargo$Code", "findWays", "()V"⟩ ∈ gT := gT_4 219 rfl rfl
set_option maxRecDepth 20000 in
theorem wm_t940 : Cond.code ⟨"SoupCargo$Code", "findWays", "()V"⟩ prog_3_method_5_code 3 (Option.none : Option Jvm.ClassFile.FieldType) ∈ gT := gT_4 220 rfl rfl
set_option maxRecDepth 20000 in
theorem wm_t941 : Cond.methodLink "SoupCargo$Code" 47 ⟨"SoupCargo$Code", "setVoyage", "(IIII)V"⟩ ∈ gT := gT_4 221 rfl rfl
set_option maxRecDepth 20000 in
theorem wm_t942 : Cond.methodLink "SoupCargo$Code" 51 ⟨"SoupCargo$Code", "findWaysOf", "(II)V"⟩ ∈ gT := gT_4 222 rfl rfl
set_option maxRecDepth 20000 in
theorem wm_t944 : Cond.instanceMethod ⟨"SoupCargo$Code", "findWaysOf", "(II)V"⟩ ∈ gT := gT_4 224 rfl rfl
set_option maxRecDepth 20000 in
theorem wm_t945 : Cond.code ⟨"SoupCargo$Code", "findWaysOf", "(II)V"⟩ prog_3_method_6_code 5 (Option.none : Option Jvm.ClassFile.FieldType) ∈ gT := gT_4 225 rfl rfl
set_option maxRecDepth 20000 in
theorem wm_t946 : Cond.methodLink "SoupCargo$Code" 55 ⟨"SoupCargo$Code", "setPapers", "(IIII)V"⟩ ∈ gT := gT_4 226 rfl rfl
set_option maxRecDepth 20000 in
theorem wm_t947 : Cond.methodLink "SoupCargo$Code" 58 ⟨"SoupCargo$Code", "someLine", "(II)Z"⟩ ∈ gT := gT_4 227 rfl rfl
set_option maxRecDepth 20000 in
theorem wm_t948 : Cond.constant "SoupCargo$Code" 61 (1000000) ∈ gT := gT_4 228 rfl rfl
set_option maxRecDepth 20000 in
theorem wm_t949 : Cond.methodLink "SoupCargo" 289 ⟨"SoupCargo$Code", "waysAbove", "(I)I"⟩ ∈ gT := gT_4 229 rfl rfl
set_option maxRecDepth 20000 in
theorem wm_t950 : Cond.instanceMethod ⟨"SoupCargo$Code", "waysAbove", "(I)I"⟩ ∈ gT := gT_4 230 rfl rfl
set_option maxRecDepth 20000 in
theorem wm_t951 : Cond.selects "SoupCargo$Code" ⟨"SoupCargo$Code", "waysAbove", "(I)I"⟩ ⟨"SoupCargo$Code", "waysAbove", "(I)I"⟩ ∈ gT := gT_4 231 rfl rfl
set_option maxRecDepth 20000 in
theorem wm_t952 : Cond.code ⟨"SoupCargo$Code", "waysAbove", "(I)I"⟩ prog_3_method_7_code 4 (Option.some Jvm.ClassFile.FieldType.int) ∈ gT := gT_4 232 rfl rfl
set_option maxRecDepth 20000 in
theorem wm_t953 : Cond.methodLink "SoupCargo$Code" 62 ⟨"java/lang/Math", "max", "(II)I"⟩ ∈ gT := gT_4 233 rfl rfl
set_option maxRecDepth 20000 in
theorem wm_t954 : Cond.methodLink "SoupCargo" 292 ⟨"SoupCargo$Code", "firstAbove", "(I)I"⟩ ∈ gT := gT_4 234 rfl rfl
set_option maxRecDepth 20000 in
theorem wm_t955 : Cond.instanceMethod ⟨"SoupCargo$Code", "firstAbove", "(I)I"⟩ ∈ gT := gT_4 235 rfl rfl
set_option maxRecDepth 20000 in
theorem wm_t956 : Cond.selects "SoupCargo$Code" ⟨"SoupCargo$Code", "firstAbove", "(I)I"⟩ ⟨"SoupCargo$Code", "firstAbove", "(I)I"⟩ ∈ gT := gT_4 236 rfl rfl
set_option maxRecDepth 20000 in
theorem wm_t957 : Cond.code ⟨"SoupCargo$Code", "firstAbove", "(I)I"⟩ prog_3_method_8_code 4 (Option.some Jvm.ClassFile.FieldType.int) ∈ gT := gT_4 237 rfl rfl
set_option maxRecDepth 20000 in
theorem wm_t958 : Cond.methodLink "SoupCargoLaw" 127 ⟨"SoupCargo", "port", "(I)I"⟩ ∈ gT := gT_4 238 rfl rfl
set_option maxRecDepth 20000 in
theorem wm_t959 : Cond.instanceMethod ⟨"SoupCargo", "port", "(I)I"⟩ ∈ gT := gT_4 239 rfl rfl
set_option maxRecDepth 20000 in
theorem wm_t960 : Cond.selects "SoupCargo" ⟨"SoupCargo", "port", "(I)I"⟩ ⟨"SoupCargo", "port", "(I)I"⟩ ∈ gT := gT_5 0 rfl rfl
set_option maxRecDepth 20000 in
theorem wm_t961 : Cond.code ⟨"SoupCargo", "port", "(I)I"⟩ prog_1_method_28_code 2 (Option.some Jvm.ClassFile.FieldType.int) ∈ gT := gT_5 1 rfl rfl
set_option maxRecDepth 20000 in
theorem wm_t962 : Cond.methodLink "SoupCargoLaw" 131 ⟨"SoupCargo", "reach", "(I)I"⟩ ∈ gT := gT_5 2 rfl rfl
set_option maxRecDepth 20000 in
theorem wm_t963 : Cond.instanceMethod ⟨"SoupCargo", "reach", "(I)I"⟩ ∈ gT := gT_5 3 rfl rfl
set_option maxRecDepth 20000 in
theorem wm_t964 : Cond.selects "SoupCargo" ⟨"SoupCargo", "reach", "(I)I"⟩ ⟨"SoupCargo", "reach", "(I)I"⟩ ∈ gT := gT_5 4 rfl rfl
set_option maxRecDepth 20000 in
theorem wm_t965 : Cond.code ⟨"SoupCargo", "reach", "(I)I"⟩ prog_1_method_29_code 5 (Option.some Jvm.ClassFile.FieldType.int) ∈ gT := gT_5 5 rfl rfl
set_option maxRecDepth 20000 in
theorem wm_t966 : Cond.methodLink "SoupCargo" 298 ⟨"SoupCargo", "nearestPort", "()I"⟩ ∈ gT := gT_5 6 rfl rfl
set_option maxRecDepth 20000 in
theorem wm_t968 : Cond.instanceMethod ⟨"SoupCargo", "nearestPort", "()I"⟩ ∈ gT := gT_5 8 rfl rfl
set_option maxRecDepth 20000 in
theorem wm_t969 : Cond.code ⟨"SoupCargo", "nearestPort", "()I"⟩ prog_1_method_40_code 3 (Option.some Jvm.ClassFile.FieldType.int) ∈ gT := gT_5 9 rfl rfl
set_option maxRecDepth 20000 in
theorem wm_t970 : Cond.methodLink "SoupCargo" 301 ⟨"SoupCargo", "staysTill", "(I)Z"⟩ ∈ gT := gT_5 10 rfl rfl
set_option maxRecDepth 20000 in
theorem wm_t972 : Cond.instanceMethod ⟨"SoupCargo", "staysTill", "(I)Z"⟩ ∈ gT := gT_5 12 rfl rfl
set_option maxRecDepth 20000 in
theorem wm_t973 : Cond.code ⟨"SoupCargo", "staysTill", "(I)Z"⟩ prog_1_method_41_code 3 (Option.some Jvm.ClassFile.FieldType.boolean) ∈ gT := gT_5 13 rfl rfl
set_option maxRecDepth 20000 in
theorem wm_t974 : Cond.methodLink "SoupCargo" 320 ⟨"SoupCargo$Ship", "copyFrom", "(LSoupCargo$Ship;)V"⟩ ∈ gT := gT_5 14 rfl rfl
set_option maxRecDepth 20000 in
theorem wm_t975 : Cond.instanceMethod ⟨"SoupCargo$Ship", "copyFrom", "(LSoupCargo$Ship;)V"⟩ ∈ gT := gT_5 15 rfl rfl
set_option maxRecDepth 20000 in
theorem wm_t976 : Cond.selects "SoupCargo$Ship" ⟨"SoupCargo$Ship", "copyFrom", "(LSoupCargo$Ship;)V"⟩ ⟨"SoupCargo$Ship", "copyFrom", "(LSoupCargo$Ship;)V"⟩ ∈ gT := gT_5 16 rfl rfl
set_option maxRecDepth 20000 in
theorem wm_t977 : Cond.code ⟨"SoupCargo$Ship", "copyFrom", "(LSoupCargo$Ship;)V"⟩ prog_7_method_2_code 2 (Option.none : Option Jvm.ClassFile.FieldType) ∈ gT := gT_5 17 rfl rfl
set_option maxRecDepth 20000 in
theorem wm_t978 : Cond.methodLink "SoupCargo$Ship" 31 ⟨"SoupCargo$Stacks", "copyFrom", "(LSoupCargo$Stacks;)V"⟩ ∈ gT := gT_5 18 rfl rfl
set_option maxRecDepth 20000 in
theorem wm_t979 : Cond.instanceMethod ⟨"SoupCargo$Stacks", "copyFrom", "(LSoupCargo$Stacks;)V"⟩ ∈ gT := gT_5 19 rfl rfl
set_option maxRecDepth 20000 in
theorem wm_t980 : Cond.selects "SoupCargo$Stacks" ⟨"SoupCargo$Stacks", "copyFrom", "(LSoupCargo$Stacks;)V"⟩ ⟨"SoupCargo$Stacks", "copyFrom", "(LSoupCargo$Stacks;)V"⟩ ∈ gT := gT_5 20 rfl rfl
set_option maxRecDepth 20000 in
theorem wm_t981 : Cond.code ⟨"SoupCargo$Stacks", "copyFrom", "(LSoupCargo$Stacks;)V"⟩ prog_10_method_2_code 3 (Option.none : Option Jvm.ClassFile.FieldType) ∈ gT := gT_5 21 rfl rfl
set_option maxRecDepth 20000 in
theorem wm_t982 : Cond.methodLink "SoupCargo$Stacks" 44 ⟨"java/lang/System", "arraycopy", "(Ljava/lang/Object;ILjava/lang/Object;II)V"⟩ ∈ gT := gT_5 22 rfl rfl
set_option maxRecDepth 20000 in
theorem wm_t983 : Cond.static ⟨"java/lang/System", "arraycopy", "(Ljava/lang/Object;ILjava/lang/Object;II)V"⟩ ∈ gT := gT_5 23 rfl rfl
set_option maxRecDepth 20000 in
theorem wm_t984 : Cond.native ⟨"java/lang/System", "arraycopy", "(Ljava/lang/Object;ILjava/lang/Object;II)V"⟩ ∈ gT := gT_5 24 rfl rfl
set_option maxRecDepth 20000 in
theorem wm_t985 : Cond.methodLink "SoupCargo$Ship" 35 ⟨"java/lang/System", "arraycopy", "(Ljava/lang/Object;ILjava/lang/Object;II)V"⟩ ∈ gT := gT_5 25 rfl rfl
set_option maxRecDepth 20000 in
theorem wm_t986 : Cond.methodLink "SoupCargoLaw" 135 ⟨"SoupCargo", "list", "(IIIZ)I"⟩ ∈ gT := gT_5 26 rfl rfl
set_option maxRecDepth 20000 in
theorem wm_t987 : Cond.instanceMethod ⟨"SoupCargo", "list", "(IIIZ)I"⟩ ∈ gT := gT_5 27 rfl rfl
set_option maxRecDepth 20000 in
theorem wm_t988 : Cond.selects "SoupCargo" ⟨"SoupCargo", "list", "(IIIZ)I"⟩ ⟨"SoupCargo", "list", "(IIIZ)I"⟩ ∈ gT := gT_5 28 rfl rfl
set_option maxRecDepth 20000 in
theorem wm_t989 : Cond.code ⟨"SoupCargo", "list", "(IIIZ)I"⟩ prog_1_method_30_code 5 (Option.some Jvm.ClassFile.FieldType.int) ∈ gT := gT_5 29 rfl rfl
set_option maxRecDepth 20000 in
theorem wm_t990 : Cond.methodLink "SoupCargo" 304 ⟨"SoupCargo$Ships", "add", "(IIIZ)I"⟩ ∈ gT := gT_5 30 rfl rfl
set_option maxRecDepth 20000 in
theorem wm_t991 : Cond.instanceMethod ⟨"SoupCargo$Ships", "add", "(IIIZ)I"⟩ ∈ gT := gT_5 31 rfl rfl
set_option maxRecDepth 20000 in
theorem wm_t992 : Cond.selects "SoupCargo$Ships" ⟨"SoupCargo$Ships", "add", "(IIIZ)I"⟩ ⟨"SoupCargo$Ships", "add", "(IIIZ)I"⟩ ∈ gT := gT_5 32 rfl rfl
set_option maxRecDepth 20000 in
theorem wm_t993 : Cond.code ⟨"SoupCargo$Ships", "add", "(IIIZ)I"⟩ prog_8_method_2_code 7 (Option.some Jvm.ClassFile.FieldType.int) ∈ gT := gT_5 33 rfl rfl
set_option maxRecDepth 20000 in
theorem wm_t995 : Cond.methodLink "SoupCargoLaw" 140 ⟨"SoupCargo", "risk", "(IIII)I"⟩ ∈ gT := gT_5 35 rfl rfl
set_option maxRecDepth 20000 in
theorem wm_t996 : Cond.instanceMethod ⟨"SoupCargo", "risk", "(IIII)I"⟩ ∈ gT := gT_5 36 rfl rfl
set_option maxRecDepth 20000 in
theorem wm_t997 : Cond.selects "SoupCargo" ⟨"SoupCargo", "risk", "(IIII)I"⟩ ⟨"SoupCargo", "risk", "(IIII)I"⟩ ∈ gT := gT_5 37 rfl rfl
set_option maxRecDepth 20000 in
theorem wm_t998 : Cond.code ⟨"SoupCargo", "risk", "(IIII)I"⟩ prog_1_method_31_code 6 (Option.some Jvm.ClassFile.FieldType.int) ∈ gT := gT_5 38 rfl rfl
set_option maxRecDepth 20000 in
theorem wm_t999 : Cond.methodLink "SoupCargo" 308 ⟨"SoupCargo$Ships", "worstHarbour", "()I"⟩ ∈ gT := gT_5 39 rfl rfl
set_option maxRecDepth 20000 in
theorem wm_t1000 : Cond.instanceMethod ⟨"SoupCargo$Ships", "worstHarbour", "()I"⟩ ∈ gT := gT_5 40 rfl rfl
set_option maxRecDepth 20000 in
theorem wm_t1001 : Cond.selects "SoupCargo$Ships" ⟨"SoupCargo$Ships", "worstHarbour", "()I"⟩ ⟨"SoupCargo$Ships", "worstHarbour", "()I"⟩ ∈ gT := gT_5 41 rfl rfl
set_option maxRecDepth 20000 in
theorem wm_t1002 : Cond.code ⟨"SoupCargo$Ships", "worstHarbour", "()I"⟩ prog_8_method_5_code 7 (Option.some Jvm.ClassFile.FieldType.int) ∈ gT := gT_5 42 rfl rfl
set_option maxRecDepth 20000 in
theorem wm_t1003 : Cond.methodLink "SoupCargo$Ships" 29 ⟨"SoupCargo$Ships", "countOf", "(IIIZ)I"⟩ ∈ gT := gT_5 43 rfl rfl
set_option maxRecDepth 20000 in
theorem wm_t1004 : Cond.instanceMethod ⟨"SoupCargo$Ships", "countOf", "(IIIZ)I"⟩ ∈ gT := gT_5 44 rfl rfl
set_option maxRecDepth 20000 in
theorem wm_t1005 : Cond.selects "SoupCargo$Ships" ⟨"SoupCargo$Ships", "countOf", "(IIIZ)I"⟩ ⟨"SoupCargo$Ships", "countOf", "(IIIZ)I"⟩ ∈ gT := gT_5 45 rfl rfl
set_option maxRecDepth 20000 in
theorem wm_t1006 : Cond.code ⟨"SoupCargo$Ships", "countOf", "(IIIZ)I"⟩ prog_8_method_3_code 8 (Option.some Jvm.ClassFile.FieldType.int) ∈ gT := gT_5 46 rfl rfl
set_option maxRecDepth 20000 in
theorem wm_t1007 : Cond.methodLink "SoupCargo$Ships" 26 ⟨"SoupCargo$Ships", "fits", "(II)Z"⟩ ∈ gT := gT_5 47 rfl rfl
set_option maxRecDepth 20000 in
theorem wm_t1008 : Cond.static ⟨"SoupCargo$Ships", "fits", "(II)Z"⟩ ∈ gT := gT_5 48 rfl rfl
set_option maxRecDepth 20000 in
theorem wm_t1009 : Cond.code ⟨"SoupCargo$Ships", "fits", "(II)Z"⟩ prog_8_method_4_code 2 (Option.some Jvm.ClassFile.FieldType.boolean) ∈ gT := gT_5 49 rfl rfl
set_option maxRecDepth 20000 in
theorem wm_t1010 : Cond.methodLink "SoupCargo" 311 ⟨"SoupCargo$Ships", "countOf", "(IIIZ)I"⟩ ∈ gT := gT_5 50 rfl rfl
set_option maxRecDepth 20000 in
theorem wm_t1011 : Cond.classLink "SoupCargoLaw" 10 "SoupCargoModel" ∈ gT := gT_5 51 rfl rfl
set_option maxRecDepth 20000 in
theorem wm_t1012 : Cond.instantiable "SoupCargoModel" 63 ∈ gT := gT_5 52 rfl rfl
set_option maxRecDepth 20000 in
theorem wm_t1013 : Cond.methodLink "SoupCargoLaw" 12 ⟨"SoupCargoModel", "<init>", "()V"⟩ ∈ gT := gT_5 53 rfl rfl
set_option maxRecDepth 20000 in
theorem wm_t1014 : Cond.instanceMethod ⟨"SoupCargoModel", "<init>", "()V"⟩ ∈ gT := gT_5 54 rfl rfl
set_option maxRecDepth 20000 in
theorem wm_t1015 : Cond.code ⟨"SoupCargoModel", "<init>", "()V"⟩ prog_13_method_1_code 1 (Option.none : Option Jvm.ClassFile.FieldType) ∈ gT := gT_5 55 rfl rfl
set_option maxRecDepth 20000 in
theorem wm_t1016 : Cond.methodLink "SoupCargoModel" 1 ⟨"java/lang/Object", "<init>", "()V"⟩ ∈ gT := gT_5 56 rfl rfl
set_option maxRecDepth 20000 in
theorem wm_t1017 : Cond.fieldLink "SoupCargoModel" 141 "SoupCargoModel" "told" "I" ∈ gT := gT_5 57 rfl rfl
set_option maxRecDepth 20000 in
theorem wm_t1018 : Cond.fieldLink "SoupCargoModel" 283 "SoupCargoModel" "now" "I" ∈ gT := gT_5 58 rfl rfl
set_option maxRecDepth 20000 in
theorem wm_t1019 : Cond.fieldLink "SoupCargoModel" 148 "SoupCargoModel" "sortOf" "I" ∈ gT := gT_5 59 rfl rfl
set_option maxRecDepth 20000 in
theorem wm_t1020 : Cond.fieldLink "SoupCargoModel" 7 "SoupCargoModel" "rainOf" "[I" ∈ gT := gT_5 60 rfl rfl
set_option maxRecDepth 20000 in
theorem wm_t1021 : Cond.fieldLink "SoupCargoModel" 13 "SoupCargoModel" "swellOf" "[I" ∈ gT := gT_5 61 rfl rfl
set_option maxRecDepth 20000 in
theorem wm_t1022 : Cond.fieldLink "SoupCargoModel" 16 "SoupCargoModel" "heapOre" "[I" ∈ gT := gT_5 62 rfl rfl
set_option maxRecDepth 20000 in
theorem wm_t1023 : Cond.fieldLink "SoupCargoModel" 19 "SoupCargoModel" "heapWater" "[I" ∈ gT := gT_5 63 rfl rfl
set_option maxRecDepth 20000 in
theorem wm_t1024 : Cond.fieldLink "SoupCargoModel" 22 "SoupCargoModel" "ore" "[I" ∈ gT := gT_5 64 rfl rfl
set_option maxRecDepth 20000 in
theorem wm_t1025 : Cond.fieldLink "SoupCargoModel" 25 "SoupCargoModel" "water" "[I" ∈ gT := gT_5 65 rfl rfl
set_option maxRecDepth 20000 in
theorem wm_t1026 : Cond.fieldLink "SoupCargoModel" 28 "SoupCargoModel" "shaken" "[I" ∈ gT := gT_5 66 rfl rfl
set_option maxRecDepth 20000 in
theorem wm_t1027 : Cond.fieldLink "SoupCargoModel" 31 "SoupCargoModel" "isSoup" "[Z" ∈ gT := gT_5 67 rfl rfl
set_option maxRecDepth 20000 in
theorem wm_t1028 : Cond.fieldLink "SoupCargoModel" 306 "SoupCargoModel" "out" "I" ∈ gT := gT_5 68 rfl rfl
set_option maxRecDepth 20000 in
theorem wm_t1029 : Cond.fieldLink "SoupCargoModel" 35 "SoupCargoModel" "well" "[I" ∈ gT := gT_5 69 rfl rfl
set_option maxRecDepth 20000 in
theorem wm_t1030 : Cond.fieldLink "SoupCargoModel" 347 "SoupCargoModel" "isAtSea" "Z" ∈ gT := gT_5 70 rfl rfl
set_option maxRecDepth 20000 in
theorem wm_t1031 : Cond.fieldLink "SoupCargoModel" 38 "SoupCargoModel" "state" "[I" ∈ gT := gT_5 71 rfl rfl
set_option maxRecDepth 20000 in
theorem wm_t1032 : Cond.fieldLink "SoupCargoModel" 41 "SoupCargoModel" "leans" "[I" ∈ gT := gT_5 72 rfl rfl
set_option maxRecDepth 20000 in
theorem wm_t1033 : Cond.fieldLink "SoupCargoModel" 44 "SoupCargoModel" "goneAt" "[I" ∈ gT := gT_5 73 rfl rfl
set_option maxRecDepth 20000 in
theorem wm_t1034 : Cond.fieldLink "SoupCargoModel" 47 "SoupCargoModel" "tape" "[I" ∈ gT := gT_5 74 rfl rfl
set_option maxRecDepth 20000 in
theorem wm_t1035 : Cond.fieldLink "SoupCargoModel" 162 "SoupCargoModel" "taped" "I" ∈ gT := gT_5 75 rfl rfl
set_option maxRecDepth 20000 in
theorem wm_t1036 : Cond.fieldLink "SoupCargoModel" 169 "SoupCargoModel" "spot" "I" ∈ gT := gT_5 76 rfl rfl
set_option maxRecDepth 20000 in
theorem wm_t1037 : Cond.fieldLink "SoupCargoModel" 176 "SoupCargoModel" "from" "I" ∈ gT := gT_5 77 rfl rfl
set_option maxRecDepth 20000 in
theorem wm_t1038 : Cond.fieldLink "SoupCargoModel" 179 "SoupCargoModel" "token" "I" ∈ gT := gT_5 78 rfl rfl
set_option maxRecDepth 20000 in
theorem wm_t1039 : Cond.fieldLink "SoupCargoModel" 182 "SoupCargoModel" "value" "I" ∈ gT := gT_5 79 rfl rfl
set_option maxRecDepth 20000 in
theorem wm_t1040 : Cond.fieldLink "SoupCargoModel" 50 "SoupCargoModel" "words" "[I" ∈ gT := gT_5 80 rfl rfl
set_option maxRecDepth 20000 in
theorem wm_t1041 : Cond.fieldLink "SoupCargoModel" 53 "SoupCargoModel" "lineMany" "[I" ∈ gT := gT_5 81 rfl rfl
set_option maxRecDepth 20000 in
theorem wm_t1042 : Cond.fieldLink "SoupCargoModel" 56 "SoupCargoModel" "lineSort" "[I" ∈ gT := gT_5 82 rfl rfl
set_option maxRecDepth 20000 in
theorem wm_t1043 : Cond.fieldLink "SoupCargoModel" 59 "SoupCargoModel" "lineWho" "[I" ∈ gT := gT_5 83 rfl rfl
set_option maxRecDepth 20000 in
theorem wm_t1044 : Cond.fieldLink "SoupCargoModel" 62 "SoupCargoModel" "lineFrom" "[I" ∈ gT := gT_5 84 rfl rfl
set_option maxRecDepth 20000 in
theorem wm_t1045 : Cond.fieldLink "SoupCargoModel" 65 "SoupCargoModel" "lineSum" "[I" ∈ gT := gT_5 85 rfl rfl
set_option maxRecDepth 20000 in
theorem wm_t1046 : Cond.fieldLink "SoupCargoModel" 68 "SoupCargoModel" "lineTo" "[I" ∈ gT := gT_5 86 rfl rfl
set_option maxRecDepth 20000 in
theorem wm_t1047 : Cond.fieldLink "SoupCargoModel" 71 "SoupCargoModel" "op" "[I" ∈ gT := gT_5 87 rfl rfl
set_option maxRecDepth 20000 in
theorem wm_t1048 : Cond.fieldLink "SoupCargoModel" 74 "SoupCargoModel" "arg" "[I" ∈ gT := gT_5 88 rfl rfl
set_option maxRecDepth 20000 in
theorem wm_t1049 : Cond.fieldLink "SoupCargoModel" 207 "SoupCargoModel" "isLaws" "Z" ∈ gT := gT_5 89 rfl rfl
set_option maxRecDepth 20000 in
theorem wm_t1050 : Cond.fieldLink "SoupCargoModel" 204 "SoupCargoModel" "many" "I" ∈ gT := gT_5 90 rfl rfl
set_option maxRecDepth 20000 in
theorem wm_t1051 : Cond.fieldLink "SoupCargoModel" 241 "SoupCargoModel" "open" "I" ∈ gT := gT_5 91 rfl rfl
set_option maxRecDepth 20000 in
theorem wm_t1052 : Cond.fieldLink "SoupCargoModel" 77 "SoupCargoModel" "pending" "[I" ∈ gT := gT_5 92 rfl rfl
set_option maxRecDepth 20000 in
theorem wm_t1053 : Cond.fieldLink "SoupCargoModel" 238 "SoupCargoModel" "pendings" "I" ∈ gT := gT_5 93 rfl rfl
set_option maxRecDepth 20000 in
theorem wm_t1054 : Cond.fieldLink "SoupCargoModel" 198 "SoupCargoModel" "readFault" "I" ∈ gT := gT_5 94 rfl rfl
set_option maxRecDepth 20000 in
theorem wm_t1055 : Cond.fieldLink "SoupCargoModel" 201 "SoupCargoModel" "readPlace" "I" ∈ gT := gT_5 95 rfl rfl
set_option maxRecDepth 20000 in
theorem wm_t1056 : Cond.fieldLink "SoupCargoModel" 268 "SoupCargoModel" "faultKind" "I" ∈ gT := gT_5 96 rfl rfl
set_option maxRecDepth 20000 in
theorem wm_t1057 : Cond.fieldLink "SoupCargoModel" 80 "SoupCargoModel" "faultPlace" "I" ∈ gT := gT_5 97 rfl rfl
set_option maxRecDepth 20000 in
theorem wm_t1058 : Cond.fieldLink "SoupCargoModel" 84 "SoupCargoModel" "asked" "[I" ∈ gT := gT_5 98 rfl rfl
set_option maxRecDepth 20000 in
theorem wm_t1059 : Cond.fieldLink "SoupCargoModel" 87 "SoupCargoModel" "stack" "[I" ∈ gT := gT_5 99 rfl rfl
set_option maxRecDepth 20000 in
theorem wm_t1060 : Cond.fieldLink "SoupCargoModel" 90 "SoupCargoModel" "gives" "[I" ∈ gT := gT_5 100 rfl rfl
set_option maxRecDepth 20000 in
theorem wm_t1061 : Cond.fieldLink "SoupCargoModel" 93 "SoupCargoModel" "armOf" "[I" ∈ gT := gT_5 101 rfl rfl
set_option maxRecDepth 20000 in
theorem wm_t1062 : Cond.fieldLink "SoupCargoModel" 96 "SoupCargoModel" "limit" "I" ∈ gT := gT_5 102 rfl rfl
set_option maxRecDepth 20000 in
theorem wm_t1063 : Cond.fieldLink "SoupCargoModel" 99 "SoupCargoModel" "parts" "[I" ∈ gT := gT_5 103 rfl rfl
set_option maxRecDepth 20000 in
theorem wm_t1064 : Cond.fieldLink "SoupCargoModel" 102 "SoupCargoModel" "kept" "[I" ∈ gT := gT_5 104 rfl rfl
set_option maxRecDepth 20000 in
theorem wm_t1065 : Cond.fieldLink "SoupCargoModel" 362 "SoupCargoModel" "cans" "I" ∈ gT := gT_5 105 rfl rfl
set_option maxRecDepth 20000 in
theorem wm_t1066 : Cond.fieldLink "SoupCargoModel" 105 "SoupCargoModel" "canAt" "[I" ∈ gT := gT_5 106 rfl rfl
set_option maxRecDepth 20000 in
theorem wm_t1067 : Cond.fieldLink "SoupCargoModel" 108 "SoupCargoModel" "canHour" "[I" ∈ gT := gT_5 107 rfl rfl
set_option maxRecDepth 20000 in
theorem wm_t1068 : Cond.fieldLink "SoupCargoModel" 111 "SoupCargoModel" "canWet" "[I" ∈ gT := gT_5 108 rfl rfl
set_option maxRecDepth 20000 in
theorem wm_t1069 : Cond.fieldLink "SoupCargoModel" 114 "SoupCargoModel" "stepOf" "I" ∈ gT := gT_5 109 rfl rfl
set_option maxRecDepth 20000 in
theorem wm_t1070 : Cond.fieldLink "SoupCargoModel" 117 "SoupCargoModel" "paperOf" "I" ∈ gT := gT_5 110 rfl rfl
set_option maxRecDepth 20000 in
theorem wm_t1071 : Cond.fieldLink "SoupCargoModel" 120 "SoupCargoModel" "placeAt" "[I" ∈ gT := gT_5 111 rfl rfl
set_option maxRecDepth 20000 in
theorem wm_t1072 : Cond.fieldLink "SoupCargoModel" 123 "SoupCargoModel" "nearOf" "[I" ∈ gT := gT_5 112 rfl rfl
set_option maxRecDepth 20000 in
theorem wm_t1073 : Cond.fieldLink "SoupCargoModel" 393 "SoupCargoModel" "ports" "I" ∈ gT := gT_5 113 rfl rfl
set_option maxRecDepth 20000 in
theorem wm_t1074 : Cond.fieldLink "SoupCargoModel" 126 "SoupCargoModel" "portFar" "[I" ∈ gT := gT_5 114 rfl rfl
set_option maxRecDepth 20000 in
theorem wm_t1075 : Cond.fieldLink "SoupCargoModel" 399 "SoupCargoModel" "listed" "I" ∈ gT := gT_5 115 rfl rfl
set_option maxRecDepth 20000 in
theorem wm_t1076 : Cond.fieldLink "SoupCargoModel" 129 "SoupCargoModel" "harbourOf" "[I" ∈ gT := gT_5 116 rfl rfl
set_option maxRecDepth 20000 in
theorem wm_t1077 : Cond.fieldLink "SoupCargoModel" 132 "SoupCargoModel" "monthOf" "[I" ∈ gT := gT_5 117 rfl rfl
set_option maxRecDepth 20000 in
theorem wm_t1078 : Cond.fieldLink "SoupCargoModel" 135 "SoupCargoModel" "kindOf" "[I" ∈ gT := gT_5 118 rfl rfl
set_option maxRecDepth 20000 in
theorem wm_t1079 : Cond.fieldLink "SoupCargoModel" 138 "SoupCargoModel" "isLost" "[Z" ∈ gT := gT_5 119 rfl rfl
set_option maxRecDepth 20000 in
theorem wm_t1207 : Cond.methodLink "SoupCargoLaw" 17 ⟨"SoupCargoModel", "sort", "(I)Z"⟩ ∈ gT := gT_6 7 rfl rfl
set_option maxRecDepth 20000 in
theorem wm_t1208 : Cond.instanceMethod ⟨"SoupCargoModel", "sort", "(I)Z"⟩ ∈ gT := gT_6 8 rfl rfl
set_option maxRecDepth 20000 in
theorem wm_t1209 : Cond.selects "SoupCargoModel" ⟨"SoupCargoModel", "sort", "(I)Z"⟩ ⟨"SoupCargoModel", "sort", "(I)Z"⟩ ∈ gT := gT_6 9 rfl rfl
set_option maxRecDepth 20000 in
theorem wm_t1210 : Cond.code ⟨"SoupCargoModel", "sort", "(I)Z"⟩ prog_13_method_4_code 2 (Option.some Jvm.ClassFile.FieldType.boolean) ∈ gT := gT_6 10 rfl rfl
set_option maxRecDepth 20000 in
theorem wm_t1211 : Cond.methodLink "SoupCargoModel" 144 ⟨"SoupCargoModel", "isIn", "(III)Z"⟩ ∈ gT := gT_6 11 rfl rfl
set_option maxRecDepth 20000 in
theorem wm_t1213 : Cond.instanceMethod ⟨"SoupCargoModel", "isIn", "(III)Z"⟩ ∈ gT := gT_6 13 rfl rfl
set_option maxRecDepth 20000 in
theorem wm_t1214 : Cond.code ⟨"SoupCargoModel", "isIn", "(III)Z"⟩ prog_13_method_3_code 4 (Option.some Jvm.ClassFile.FieldType.boolean) ∈ gT := gT_6 14 rfl rfl
set_option maxRecDepth 20000 in
theorem wm_t1215 : Cond.methodLink "SoupCargoLaw" 22 ⟨"SoupCargoModel", "sky", "(III)Z"⟩ ∈ gT := gT_6 15 rfl rfl
set_option maxRecDepth 20000 in
theorem wm_t1216 : Cond.instanceMethod ⟨"SoupCargoModel", "sky", "(III)Z"⟩ ∈ gT := gT_6 16 rfl rfl
set_option maxRecDepth 20000 in
theorem wm_t1217 : Cond.selects "SoupCargoModel" ⟨"SoupCargoModel", "sky", "(III)Z"⟩ ⟨"SoupCargoModel", "sky", "(III)Z"⟩ ∈ gT := gT_6 17 rfl rfl
set_option maxRecDepth 20000 in
theorem wm_t1218 : Cond.code ⟨"SoupCargoModel", "sky", "(III)Z"⟩ prog_13_method_5_code 4 (Option.some Jvm.ClassFile.FieldType.boolean) ∈ gT := gT_6 18 rfl rfl
set_option maxRecDepth 20000 in
theorem wm_t1219 : Cond.methodLink "SoupCargoLaw" 27 ⟨"SoupCargoModel", "heap", "(IIIII)Z"⟩ ∈ gT := gT_6 19 rfl rfl
set_option maxRecDepth 20000 in
theorem wm_t1220 : Cond.instanceMethod ⟨"SoupCargoModel", "heap", "(IIIII)Z"⟩ ∈ gT := gT_6 20 rfl rfl
set_option maxRecDepth 20000 in
theorem wm_t1221 : Cond.selects "SoupCargoModel" ⟨"SoupCargoModel", "heap", "(IIIII)Z"⟩ ⟨"SoupCargoModel", "heap", "(IIIII)Z"⟩ ∈ gT := gT_6 21 rfl rfl
set_option maxRecDepth 20000 in
theorem wm_t1222 : Cond.code ⟨"SoupCargoModel", "heap", "(IIIII)Z"⟩ prog_13_method_9_code 7 (Option.some Jvm.ClassFile.FieldType.boolean) ∈ gT := gT_6 22 rfl rfl
set_option maxRecDepth 20000 in
theorem wm_t1223 : Cond.methodLink "SoupCargoModel" 151 ⟨"SoupCargoModel", "heapAt", "(III)I"⟩ ∈ gT := gT_6 23 rfl rfl
set_option maxRecDepth 20000 in
theorem wm_t1225 : Cond.instanceMethod ⟨"SoupCargoModel", "heapAt", "(III)I"⟩ ∈ gT := gT_6 25 rfl rfl
set_option maxRecDepth 20000 in
theorem wm_t1226 : Cond.code ⟨"SoupCargoModel", "heapAt", "(III)I"⟩ prog_13_method_6_code 4 (Option.some Jvm.ClassFile.FieldType.int) ∈ gT := gT_6 26 rfl rfl
set_option maxRecDepth 20000 in
theorem wm_t1227 : Cond.methodLink "SoupCargoLaw" 32 ⟨"SoupCargoModel", "cell", "(IIIII)I"⟩ ∈ gT := gT_6 27 rfl rfl
set_option maxRecDepth 20000 in
theorem wm_t1228 : Cond.instanceMethod ⟨"SoupCargoModel", "cell", "(IIIII)I"⟩ ∈ gT := gT_6 28 rfl rfl
set_option maxRecDepth 20000 in
theorem wm_t1229 : Cond.selects "SoupCargoModel" ⟨"SoupCargoModel", "cell", "(IIIII)I"⟩ ⟨"SoupCargoModel", "cell", "(IIIII)I"⟩ ∈ gT := gT_6 29 rfl rfl
set_option maxRecDepth 20000 in
theorem wm_t1230 : Cond.code ⟨"SoupCargoModel", "cell", "(IIIII)I"⟩ prog_13_method_10_code 9 (Option.some Jvm.ClassFile.FieldType.int) ∈ gT := gT_6 30 rfl rfl
set_option maxRecDepth 20000 in
theorem wm_t1231 : Cond.methodLink "SoupCargoModel" 155 ⟨"SoupCargoModel", "holdAt", "(III)I"⟩ ∈ gT := gT_6 31 rfl rfl
set_option maxRecDepth 20000 in
theorem wm_t1233 : Cond.instanceMethod ⟨"SoupCargoModel", "holdAt", "(III)I"⟩ ∈ gT := gT_6 33 rfl rfl
set_option maxRecDepth 20000 in
theorem wm_t1234 : Cond.code ⟨"SoupCargoModel", "holdAt", "(III)I"⟩ prog_13_method_7_code 4 (Option.some Jvm.ClassFile.FieldType.int) ∈ gT := gT_6 34 rfl rfl
set_option maxRecDepth 20000 in
theorem wm_t1235 : Cond.methodLink "SoupCargoModel" 158 ⟨"SoupCargoModel", "wetOf", "(II)I"⟩ ∈ gT := gT_6 35 rfl rfl
set_option maxRecDepth 20000 in
theorem wm_t1237 : Cond.instanceMethod ⟨"SoupCargoModel", "wetOf", "(II)I"⟩ ∈ gT := gT_6 37 rfl rfl
set_option maxRecDepth 20000 in
theorem wm_t1238 : Cond.code ⟨"SoupCargoModel", "wetOf", "(II)I"⟩ prog_13_method_8_code 3 (Option.some Jvm.ClassFile.FieldType.int) ∈ gT := gT_6 38 rfl rfl
set_option maxRecDepth 20000 in
theorem wm_t1239 : Cond.methodLink "SoupCargoLaw" 36 ⟨"SoupCargoModel", "feed", "(IIIII)I"⟩ ∈ gT := gT_6 39 rfl rfl
set_option maxRecDepth 20000 in
theorem wm_t1240 : Cond.instanceMethod ⟨"SoupCargoModel", "feed", "(IIIII)I"⟩ ∈ gT := gT_6 40 rfl rfl
set_option maxRecDepth 20000 in
theorem wm_t1241 : Cond.selects "SoupCargoModel" ⟨"SoupCargoModel", "feed", "(IIIII)I"⟩ ⟨"SoupCargoModel", "feed", "(IIIII)I"⟩ ∈ gT := gT_6 41 rfl rfl
set_option maxRecDepth 20000 in
theorem wm_t1242 : Cond.code ⟨"SoupCargoModel", "feed", "(IIIII)I"⟩ prog_13_method_14_code 6 (Option.some Jvm.ClassFile.FieldType.int) ∈ gT := gT_6 42 rfl rfl
set_option maxRecDepth 20000 in
theorem wm_t1243 : Cond.methodLink "SoupCargoModel" 165 ⟨"SoupCargoModel", "puts", "(I)V"⟩ ∈ gT := gT_6 43 rfl rfl
set_option maxRecDepth 20000 in
theorem wm_t1245 : Cond.instanceMethod ⟨"SoupCargoModel", "puts", "(I)V"⟩ ∈ gT := gT_6 45 rfl rfl
set_option maxRecDepth 20000 in
theorem wm_t1246 : Cond.code ⟨"SoupCargoModel", "puts", "(I)V"⟩ prog_13_method_13_code 3 (Option.none : Option Jvm.ClassFile.FieldType) ∈ gT := gT_6 46 rfl rfl
set_option maxRecDepth 20000 in
theorem wm_t1247 : Cond.methodLink "SoupCargoLaw" 40 ⟨"SoupCargoModel", "end", "(I)Z"⟩ ∈ gT := gT_6 47 rfl rfl
set_option maxRecDepth 20000 in
theorem wm_t1248 : Cond.instanceMethod ⟨"SoupCargoModel", "end", "(I)Z"⟩ ∈ gT := gT_6 48 rfl rfl
set_option maxRecDepth 20000 in
theorem wm_t1249 : Cond.selects "SoupCargoModel" ⟨"SoupCargoModel", "end", "(I)Z"⟩ ⟨"SoupCargoModel", "end", "(I)Z"⟩ ∈ gT := gT_6 49 rfl rfl
set_option maxRecDepth 20000 in
theorem wm_t1250 : Cond.code ⟨"SoupCargoModel", "end", "(I)Z"⟩ prog_13_method_15_code 2 (Option.some Jvm.ClassFile.FieldType.boolean) ∈ gT := gT_6 50 rfl rfl
set_option maxRecDepth 20000 in
theorem wm_t1251 : Cond.methodLink "SoupCargoLaw" 45 ⟨"SoupCargoModel", "laws", "()I"⟩ ∈ gT := gT_6 51 rfl rfl
set_option maxRecDepth 20000 in
theorem wm_t1252 : Cond.instanceMethod ⟨"SoupCargoModel", "laws", "()I"⟩ ∈ gT := gT_6 52 rfl rfl
set_option maxRecDepth 20000 in
theorem wm_t1253 : Cond.selects "SoupCargoModel" ⟨"SoupCargoModel", "laws", "()I"⟩ ⟨"SoupCargoModel", "laws", "()I"⟩ ∈ gT := gT_6 53 rfl rfl
set_option maxRecDepth 20000 in
theorem wm_t1254 : Cond.code ⟨"SoupCargoModel", "laws", "()I"⟩ prog_13_method_39_code 1 (Option.some Jvm.ClassFile.FieldType.int) ∈ gT := gT_6 54 rfl rfl
set_option maxRecDepth 20000 in
theorem wm_t1255 : Cond.methodLink "SoupCargoModel" 274 ⟨"SoupCargoModel", "takesText", "(I)I"⟩ ∈ gT := gT_6 55 rfl rfl
set_option maxRecDepth 20000 in
theorem wm_t1257 : Cond.instanceMethod ⟨"SoupCargoModel", "takesText", "(I)I"⟩ ∈ gT := gT_6 57 rfl rfl
set_option maxRecDepth 20000 in
theorem wm_t1258 : Cond.code ⟨"SoupCargoModel", "takesText", "(I)I"⟩ prog_13_method_38_code 4 (Option.some Jvm.ClassFile.FieldType.int) ∈ gT := gT_6 58 rfl rfl
set_option maxRecDepth 20000 in
theorem wm_t1259 : Cond.methodLink "SoupCargoModel" 271 ⟨"SoupCargoModel", "readText", "()I"⟩ ∈ gT := gT_6 59 rfl rfl
set_option maxRecDepth 20000 in
theorem wm_t1261 : Cond.instanceMethod ⟨"SoupCargoModel", "readText", "()I"⟩ ∈ gT := gT_6 61 rfl rfl
set_option maxRecDepth 20000 in
theorem wm_t1262 : Cond.code ⟨"SoupCargoModel", "readText", "()I"⟩ prog_13_method_37_code 2 (Option.some Jvm.ClassFile.FieldType.int) ∈ gT := gT_6 62 rfl rfl
set_option maxRecDepth 20000 in
theorem wm_t1263 : Cond.methodLink "SoupCargoModel" 222 ⟨"SoupCargoModel", "reads", "()V"⟩ ∈ gT := gT_6 63 rfl rfl
set_option maxRecDepth 20000 in
theorem wm_t1265 : Cond.instanceMethod ⟨"SoupCargoModel", "reads", "()V"⟩ ∈ gT := gT_6 65 rfl rfl
set_option maxRecDepth 20000 in
theorem wm_t1266 : Cond.code ⟨"SoupCargoModel", "reads", "()V"⟩ prog_13_method_21_code 2 (Option.none : Option Jvm.ClassFile.FieldType) ∈ gT := gT_6 66 rfl rfl
set_option maxRecDepth 20000 in
theorem wm_t1267 : Cond.methodLink "SoupCargoModel" 172 ⟨"SoupCargoModel", "raw", "(I)I"⟩ ∈ gT := gT_6 67 rfl rfl
set_option maxRecDepth 20000 in
theorem wm_t1269 : Cond.instanceMethod ⟨"SoupCargoModel", "raw", "(I)I"⟩ ∈ gT := gT_6 69 rfl rfl
set_option maxRecDepth 20000 in
theorem wm_t1270 : Cond.code ⟨"SoupCargoModel", "raw", "(I)I"⟩ prog_13_method_16_code 2 (Option.some Jvm.ClassFile.FieldType.int) ∈ gT := gT_6 70 rfl rfl
set_option maxRecDepth 20000 in
theorem wm_t1271 : Cond.methodLink "SoupCargoModel" 185 ⟨"SoupCargoModel", "isLetter", "(I)Z"⟩ ∈ gT := gT_6 71 rfl rfl
set_option maxRecDepth 20000 in
theorem wm_t1273 : Cond.instanceMethod ⟨"SoupCargoModel", "isLetter", "(I)Z"⟩ ∈ gT := gT_6 73 rfl rfl
set_option maxRecDepth 20000 in
theorem wm_t1274 : Cond.code ⟨"SoupCargoModel", "isLetter", "(I)Z"⟩ prog_13_method_17_code 2 (Option.some Jvm.ClassFile.FieldType.boolean) ∈ gT := gT_6 74 rfl rfl
set_option maxRecDepth 20000 in
theorem wm_t1275 : Cond.methodLink "SoupCargoModel" 189 ⟨"SoupCargoModel", "wordAt", "(II)I"⟩ ∈ gT := gT_6 75 rfl rfl
set_option maxRecDepth 20000 in
theorem wm_t1277 : Cond.instanceMethod ⟨"SoupCargoModel", "wordAt", "(II)I"⟩ ∈ gT := gT_6 77 rfl rfl
set_option maxRecDepth 20000 in
theorem wm_t1278 : Cond.code ⟨"SoupCargoModel", "wordAt", "(II)I"⟩ prog_13_method_20_code 6 (Option.some Jvm.ClassFile.FieldType.int) ∈ gT := gT_6 78 rfl rfl
set_option maxRecDepth 20000 in
theorem wm_t1279 : Cond.methodLink "SoupCargoModel" 192 ⟨"SoupCargoModel", "isDigit", "(I)Z"⟩ ∈ gT := gT_6 79 rfl rfl
set_option maxRecDepth 20000 in
theorem wm_t1281 : Cond.instanceMethod ⟨"SoupCargoModel", "isDigit", "(I)Z"⟩ ∈ gT := gT_6 81 rfl rfl
set_option maxRecDepth 20000 in
theorem wm_t1282 : Cond.code ⟨"SoupCargoModel", "isDigit", "(I)Z"⟩ prog_13_method_18_code 2 (Option.some Jvm.ClassFile.FieldType.boolean) ∈ gT := gT_6 82 rfl rfl
set_option maxRecDepth 20000 in
theorem wm_t1283 : Cond.methodLink "SoupCargoModel" 195 ⟨"SoupCargoModel", "isMarkSign", "(I)Z"⟩ ∈ gT := gT_6 83 rfl rfl
set_option maxRecDepth 20000 in
theorem wm_t1285 : Cond.instanceMethod ⟨"SoupCargoModel", "isMarkSign", "(I)Z"⟩ ∈ gT := gT_6 85 rfl rfl
set_option maxRecDepth 20000 in
theorem wm_t1286 : Cond.code ⟨"SoupCargoModel", "isMarkSign", "(I)Z"⟩ prog_13_method_19_code 2 (Option.some Jvm.ClassFile.FieldType.boolean) ∈ gT := gT_6 86 rfl rfl
set_option maxRecDepth 20000 in
theorem wm_t1287 : Cond.methodLink "SoupCargoModel" 262 ⟨"SoupCargoModel", "isBegin", "()Z"⟩ ∈ gT := gT_6 87 rfl rfl
set_option maxRecDepth 20000 in
theorem wm_t1289 : Cond.instanceMethod ⟨"SoupCargoModel", "isBegin", "()Z"⟩ ∈ gT := gT_6 89 rfl rfl
set_option maxRecDepth 20000 in
theorem wm_t1290 : Cond.code ⟨"SoupCargoModel", "isBegin", "()Z"⟩ prog_13_method_36_code 1 (Option.some Jvm.ClassFile.FieldType.boolean) ∈ gT := gT_6 90 rfl rfl
set_option maxRecDepth 20000 in
theorem wm_t1291 : Cond.methodLink "SoupCargoModel" 215 ⟨"SoupCargoModel", "fails", "(I)I"⟩ ∈ gT := gT_6 91 rfl rfl
set_option maxRecDepth 20000 in
theorem wm_t1293 : Cond.instanceMethod ⟨"SoupCargoModel", "fails", "(I)I"⟩ ∈ gT := gT_6 93 rfl rfl
set_option maxRecDepth 20000 in
theorem wm_t1294 : Cond.code ⟨"SoupCargoModel", "fails", "(I)I"⟩ prog_13_method_22_code 2 (Option.some Jvm.ClassFile.FieldType.int) ∈ gT := gT_6 94 rfl rfl
set_option maxRecDepth 20000 in
theorem wm_t1295 : Cond.methodLink "SoupCargoModel" 265 ⟨"SoupCargoModel", "readLine", "(I)I"⟩ ∈ gT := gT_6 95 rfl rfl
set_option maxRecDepth 20000 in
theorem wm_t1297 : Cond.instanceMethod ⟨"SoupCargoModel", "readLine", "(I)I"⟩ ∈ gT := gT_6 97 rfl rfl
set_option maxRecDepth 20000 in
theorem wm_t1298 : Cond.code ⟨"SoupCargoModel", "readLine", "(I)I"⟩ prog_13_method_35_code 2 (Option.some Jvm.ClassFile.FieldType.int) ∈ gT := gT_6 98 rfl rfl
set_option maxRecDepth 20000 in
theorem wm_t1299 : Cond.methodLink "SoupCargoModel" 235 ⟨"SoupCargoModel", "readSum", "()I"⟩ ∈ gT := gT_6 99 rfl rfl
set_option maxRecDepth 20000 in
theorem wm_t1301 : Cond.instanceMethod ⟨"SoupCargoModel", "readSum", "()I"⟩ ∈ gT := gT_6 101 rfl rfl
set_option maxRecDepth 20000 in
theorem wm_t1302 : Cond.code ⟨"SoupCargoModel", "readSum", "()I"⟩ prog_13_method_29_code 2 (Option.some Jvm.ClassFile.FieldType.int) ∈ gT := gT_6 102 rfl rfl
set_option maxRecDepth 20000 in
theorem wm_t1303 : Cond.methodLink "SoupCargoModel" 232 ⟨"SoupCargoModel", "readProduct", "()I"⟩ ∈ gT := gT_6 103 rfl rfl
set_option maxRecDepth 20000 in
theorem wm_t1305 : Cond.instanceMethod ⟨"SoupCargoModel", "readProduct", "()I"⟩ ∈ gT := gT_6 105 rfl rfl
set_option maxRecDepth 20000 in
theorem wm_t1306 : Cond.code ⟨"SoupCargoModel", "readProduct", "()I"⟩ prog_13_method_28_code 2 (Option.some Jvm.ClassFile.FieldType.int) ∈ gT := gT_6 106 rfl rfl
set_option maxRecDepth 20000 in
theorem wm_t1307 : Cond.methodLink "SoupCargoModel" 225 ⟨"SoupCargoModel", "readUnit", "()I"⟩ ∈ gT := gT_6 107 rfl rfl
set_option maxRecDepth 20000 in
theorem wm_t1309 : Cond.instanceMethod ⟨"SoupCargoModel", "readUnit", "()I"⟩ ∈ gT := gT_6 109 rfl rfl
set_option maxRecDepth 20000 in
theorem wm_t1310 : Cond.code ⟨"SoupCargoModel", "readUnit", "()I"⟩ prog_13_method_27_code 2 (Option.some Jvm.ClassFile.FieldType.int) ∈ gT := gT_6 110 rfl rfl
set_option maxRecDepth 20000 in
theorem wm_t1311 : Cond.methodLink "SoupCargoModel" 211 ⟨"SoupCargoModel", "isAsking", "()Z"⟩ ∈ gT := gT_6 111 rfl rfl
set_option maxRecDepth 20000 in
theorem wm_t1313 : Cond.instanceMethod ⟨"SoupCargoModel", "isAsking", "()Z"⟩ ∈ gT := gT_6 113 rfl rfl
set_option maxRecDepth 20000 in
theorem wm_t1314 : Cond.code ⟨"SoupCargoModel", "isAsking", "()Z"⟩ prog_13_method_26_code 1 (Option.some Jvm.ClassFile.FieldType.boolean) ∈ gT := gT_6 114 rfl rfl
set_option maxRecDepth 20000 in
theorem wm_t1315 : Cond.methodLink "SoupCargoModel" 218 ⟨"SoupCargoModel", "emits", "(II)V"⟩ ∈ gT := gT_6 115 rfl rfl
set_option maxRecDepth 20000 in
theorem wm_t1317 : Cond.instanceMethod ⟨"SoupCargoModel", "emits", "(II)V"⟩ ∈ gT := gT_6 117 rfl rfl
set_option maxRecDepth 20000 in
theorem wm_t1318 : Cond.code ⟨"SoupCargoModel", "emits", "(II)V"⟩ prog_13_method_25_code 3 (Option.none : Option Jvm.ClassFile.FieldType) ∈ gT := gT_6 118 rfl rfl
set_option maxRecDepth 20000 in
theorem wm_t1319 : Cond.methodLink "SoupCargoModel" 229 ⟨"SoupCargoModel", "isSign", "(I)Z"⟩ ∈ gT := gT_6 119 rfl rfl
set_option maxRecDepth 20000 in
theorem wm_t1321 : Cond.instanceMethod ⟨"SoupCargoModel", "isSign", "(I)Z"⟩ ∈ gT := gT_6 121 rfl rfl
set_option maxRecDepth 20000 in
theorem wm_t1322 : Cond.code ⟨"SoupCargoModel", "isSign", "(I)Z"⟩ prog_13_method_24_code 2 (Option.some Jvm.ClassFile.FieldType.boolean) ∈ gT := gT_6 122 rfl rfl
set_option maxRecDepth 20000 in
theorem wm_t1323 : Cond.methodLink "SoupCargoModel" 256 ⟨"SoupCargoModel", "readWho", "(I)I"⟩ ∈ gT := gT_6 123 rfl rfl
set_option maxRecDepth 20000 in
theorem wm_t1325 : Cond.instanceMethod ⟨"SoupCargoModel", "readWho", "(I)I"⟩ ∈ gT := gT_6 125 rfl rfl
set_option maxRecDepth 20000 in
theorem wm_t1326 : Cond.code ⟨"SoupCargoModel", "readWho", "(I)I"⟩ prog_13_method_34_code 2 (Option.some Jvm.ClassFile.FieldType.int) ∈ gT := gT_6 126 rfl rfl
set_option maxRecDepth 20000 in
theorem wm_t1327 : Cond.methodLink "SoupCargoModel" 244 ⟨"SoupCargoModel", "isWord", "(I)Z"⟩ ∈ gT := gT_6 127 rfl rfl
set_option maxRecDepth 20000 in
theorem wm_t1329 : Cond.instanceMethod ⟨"SoupCargoModel", "isWord", "(I)Z"⟩ ∈ gT := gT_6 129 rfl rfl
set_option maxRecDepth 20000 in
theorem wm_t1330 : Cond.code ⟨"SoupCargoModel", "isWord", "(I)Z"⟩ prog_13_method_23_code 2 (Option.some Jvm.ClassFile.FieldType.boolean) ∈ gT := gT_6 130 rfl rfl
set_option maxRecDepth 20000 in
theorem wm_t1331 : Cond.methodLink "SoupCargoModel" 259 ⟨"SoupCargoModel", "readAny", "()I"⟩ ∈ gT := gT_6 131 rfl rfl
set_option maxRecDepth 20000 in
theorem wm_t1333 : Cond.instanceMethod ⟨"SoupCargoModel", "readAny", "()I"⟩ ∈ gT := gT_6 133 rfl rfl
set_option maxRecDepth 20000 in
theorem wm_t1334 : Cond.code ⟨"SoupCargoModel", "readAny", "()I"⟩ prog_13_method_33_code 4 (Option.some Jvm.ClassFile.FieldType.int) ∈ gT := gT_6 134 rfl rfl
set_option maxRecDepth 20000 in
theorem wm_t1335 : Cond.methodLink "SoupCargoModel" 247 ⟨"SoupCargoModel", "waits", "(I)V"⟩ ∈ gT := gT_6 135 rfl rfl
set_option maxRecDepth 20000 in
theorem wm_t1337 : Cond.instanceMethod ⟨"SoupCargoModel", "waits", "(I)V"⟩ ∈ gT := gT_6 137 rfl rfl
set_option maxRecDepth 20000 in
theorem wm_t1338 : Cond.code ⟨"SoupCargoModel", "waits", "(I)V"⟩ prog_13_method_31_code 2 (Option.none : Option Jvm.ClassFile.FieldType) ∈ gT := gT_6 138 rfl rfl
set_option maxRecDepth 20000 in
theorem wm_t1339 : Cond.methodLink "SoupCargoModel" 250 ⟨"SoupCargoModel", "readCompared", "()I"⟩ ∈ gT := gT_6 139 rfl rfl
set_option maxRecDepth 20000 in
theorem wm_t1341 : Cond.instanceMethod ⟨"SoupCargoModel", "readCompared", "()I"⟩ ∈ gT := gT_6 141 rfl rfl
set_option maxRecDepth 20000 in
theorem wm_t1342 : Cond.code ⟨"SoupCargoModel", "readCompared", "()I"⟩ prog_13_method_30_code 2 (Option.some Jvm.ClassFile.FieldType.int) ∈ gT := gT_6 142 rfl rfl
set_option maxRecDepth 20000 in
theorem wm_t1343 : Cond.methodLink "SoupCargoModel" 253 ⟨"SoupCargoModel", "settles", "(I)V"⟩ ∈ gT := gT_6 143 rfl rfl
set_option maxRecDepth 20000 in
theorem wm_t1345 : Cond.instanceMethod ⟨"SoupCargoModel", "settles", "(I)V"⟩ ∈ gT := gT_6 145 rfl rfl
set_option maxRecDepth 20000 in
theorem wm_t1346 : Cond.code ⟨"SoupCargoModel", "settles", "(I)V"⟩ prog_13_method_32_code 2 (Option.none : Option Jvm.ClassFile.FieldType) ∈ gT := gT_6 146 rfl rfl
set_option maxRecDepth 20000 in
theorem wm_t1347 : Cond.methodLink "SoupCargoLaw" 49 ⟨"SoupCargoModel", "code", "()I"⟩ ∈ gT := gT_6 147 rfl rfl
set_option maxRecDepth 20000 in
theorem wm_t1348 : Cond.instanceMethod ⟨"SoupCargoModel", "code", "()I"⟩ ∈ gT := gT_6 148 rfl rfl
set_option maxRecDepth 20000 in
theorem wm_t1349 : Cond.selects "SoupCargoModel" ⟨"SoupCargoModel", "code", "()I"⟩ ⟨"SoupCargoModel", "code", "()I"⟩ ∈ gT := gT_6 149 rfl rfl
set_option maxRecDepth 20000 in
theorem wm_t1350 : Cond.code ⟨"SoupCargoModel", "code", "()I"⟩ prog_13_method_40_code 1 (Option.some Jvm.ClassFile.FieldType.int) ∈ gT := gT_6 150 rfl rfl
set_option maxRecDepth 20000 in
theorem wm_t1351 : Cond.methodLink "SoupCargoLaw" 54 ⟨"SoupCargoModel", "fault", "(I)I"⟩ ∈ gT := gT_6 151 rfl rfl
set_option maxRecDepth 20000 in
theorem wm_t1352 : Cond.instanceMethod ⟨"SoupCargoModel", "fault", "(I)I"⟩ ∈ gT := gT_6 152 rfl rfl
set_option maxRecDepth 20000 in
theorem wm_t1353 : Cond.selects "SoupCargoModel" ⟨"SoupCargoModel", "fault", "(I)I"⟩ ⟨"SoupCargoModel", "fault", "(I)I"⟩ ∈ gT := gT_6 153 rfl rfl
set_option maxRecDepth 20000 in
theorem wm_t1354 : Cond.code ⟨"SoupCargoModel", "fault", "(I)I"⟩ prog_13_method_41_code 2 (Option.some Jvm.ClassFile.FieldType.int) ∈ gT := gT_6 154 rfl rfl
set_option maxRecDepth 20000 in
theorem wm_t1355 : Cond.methodLink "SoupCargoLaw" 84 ⟨"SoupCargoModel", "told", "(IIIII)I"⟩ ∈ gT := gT_6 155 rfl rfl
set_option maxRecDepth 20000 in
theorem wm_t1356 : Cond.instanceMethod ⟨"SoupCargoModel", "told", "(IIIII)I"⟩ ∈ gT := gT_6 156 rfl rfl
set_option maxRecDepth 20000 in
theorem wm_t1357 : Cond.selects "SoupCargoModel" ⟨"SoupCargoModel", "told", "(IIIII)I"⟩ ⟨"SoupCargoModel", "told", "(IIIII)I"⟩ ∈ gT := gT_6 157 rfl rfl
set_option maxRecDepth 20000 in
theorem wm_t1358 : Cond.code ⟨"SoupCargoModel", "told", "(IIIII)I"⟩ prog_13_method_49_code 7 (Option.some Jvm.ClassFile.FieldType.int) ∈ gT := gT_6 158 rfl rfl
set_option maxRecDepth 20000 in
theorem wm_t1359 : Cond.constant "SoupCargoModel" 293 (-1000000) ∈ gT := gT_6 159 rfl rfl
set_option maxRecDepth 20000 in
theorem wm_t1360 : Cond.methodLink "SoupCargoModel" 294 ⟨"SoupCargoModel", "takesHeap", "(I)V"⟩ ∈ gT := gT_6 160 rfl rfl
set_option maxRecDepth 20000 in
theorem wm_t1362 : Cond.instanceMethod ⟨"SoupCargoModel", "takesHeap", "(I)V"⟩ ∈ gT := gT_6 162 rfl rfl
set_option maxRecDepth 20000 in
theorem wm_t1363 : Cond.code ⟨"SoupCargoModel", "takesHeap", "(I)V"⟩ prog_13_method_47_code 4 (Option.none : Option Jvm.ClassFile.FieldType) ∈ gT := gT_6 163 rfl rfl
set_option maxRecDepth 20000 in
theorem wm_t1364 : Cond.methodLink "SoupCargoModel" 286 ⟨"SoupCargoModel", "takesHour", "(IIII)V"⟩ ∈ gT := gT_6 164 rfl rfl
set_option maxRecDepth 20000 in
theorem wm_t1366 : Cond.instanceMethod ⟨"SoupCargoModel", "takesHour", "(IIII)V"⟩ ∈ gT := gT_6 166 rfl rfl
set_option maxRecDepth 20000 in
theorem wm_t1367 : Cond.code ⟨"SoupCargoModel", "takesHour", "(IIII)V"⟩ prog_13_method_46_code 5 (Option.none : Option Jvm.ClassFile.FieldType) ∈ gT := gT_6 167 rfl rfl
set_option maxRecDepth 20000 in
theorem wm_t1368 : Cond.methodLink "SoupCargoModel" 290 ⟨"SoupCargoModel", "heapHeight", "(I)I"⟩ ∈ gT := gT_6 168 rfl rfl
set_option maxRecDepth 20000 in
theorem wm_t1370 : Cond.instanceMethod ⟨"SoupCargoModel", "heapHeight", "(I)I"⟩ ∈ gT := gT_6 170 rfl rfl
set_option maxRecDepth 20000 in
theorem wm_t1371 : Cond.code ⟨"SoupCargoModel", "heapHeight", "(I)I"⟩ prog_13_method_11_code 3 (Option.some Jvm.ClassFile.FieldType.int) ∈ gT := gT_6 171 rfl rfl
set_option maxRecDepth 20000 in
theorem wm_t1372 : Cond.methodLink "SoupCargoModel" 297 ⟨"SoupCargoModel", "takesShip", "(II)V"⟩ ∈ gT := gT_6 172 rfl rfl
set_option maxRecDepth 20000 in
theorem wm_t1374 : Cond.instanceMethod ⟨"SoupCargoModel", "takesShip", "(II)V"⟩ ∈ gT := gT_6 174 rfl rfl
set_option maxRecDepth 20000 in
theorem wm_t1375 : Cond.code ⟨"SoupCargoModel", "takesShip", "(II)V"⟩ prog_13_method_48_code 3 (Option.none : Option Jvm.ClassFile.FieldType) ∈ gT := gT_6 175 rfl rfl
set_option maxRecDepth 20000 in
theorem wm_t1376 : Cond.methodLink "SoupCargoModel" 300 ⟨"SoupCargoModel", "lawOf", "(I)I"⟩ ∈ gT := gT_6 176 rfl rfl
set_option maxRecDepth 20000 in
theorem wm_t1378 : Cond.instanceMethod ⟨"SoupCargoModel", "lawOf", "(I)I"⟩ ∈ gT := gT_6 178 rfl rfl
set_option maxRecDepth 20000 in
theorem wm_t1379 : Cond.code ⟨"SoupCargoModel", "lawOf", "(I)I"⟩ prog_13_method_44_code 3 (Option.some Jvm.ClassFile.FieldType.int) ∈ gT := gT_6 179 rfl rfl
set_option maxRecDepth 20000 in
theorem wm_t1380 : Cond.methodLink "SoupCargoModel" 280 ⟨"SoupCargoModel", "worth", "(III)I"⟩ ∈ gT := gT_6 180 rfl rfl
set_option maxRecDepth 20000 in
theorem wm_t1382 : Cond.instanceMethod ⟨"SoupCargoModel", "worth", "(III)I"⟩ ∈ gT := gT_6 182 rfl rfl
set_option maxRecDepth 20000 in
theorem wm_t1383 : Cond.code ⟨"SoupCargoModel", "worth", "(III)I"⟩ prog_13_method_43_code 6 (Option.some Jvm.ClassFile.FieldType.int) ∈ gT := gT_6 183 rfl rfl
set_option maxRecDepth 20000 in
theorem wm_t1384 : Cond.methodLink "SoupCargoModel" 277 ⟨"SoupCargoModel", "twoOf", "(III)I"⟩ ∈ gT := gT_6 184 rfl rfl
set_option maxRecDepth 20000 in
theorem wm_t1386 : Cond.instanceMethod ⟨"SoupCargoModel", "twoOf", "(III)I"⟩ ∈ gT := gT_6 186 rfl rfl
set_option maxRecDepth 20000 in
theorem wm_t1387 : Cond.code ⟨"SoupCargoModel", "twoOf", "(III)I"⟩ prog_13_method_42_code 4 (Option.some Jvm.ClassFile.FieldType.int) ∈ gT := gT_6 187 rfl rfl
set_option maxRecDepth 20000 in
theorem wm_t1388 : Cond.methodLink "SoupCargoLaw" 58 ⟨"SoupCargoModel", "hours", "(I)I"⟩ ∈ gT := gT_6 188 rfl rfl
set_option maxRecDepth 20000 in
theorem wm_t1389 : Cond.instanceMethod ⟨"SoupCargoModel", "hours", "(I)I"⟩ ∈ gT := gT_6 189 rfl rfl
set_option maxRecDepth 20000 in
theorem wm_t1390 : Cond.selects "SoupCargoModel" ⟨"SoupCargoModel", "hours", "(I)I"⟩ ⟨"SoupCargoModel", "hours", "(I)I"⟩ ∈ gT := gT_6 190 rfl rfl
set_option maxRecDepth 20000 in
theorem wm_t1391 : Cond.code ⟨"SoupCargoModel", "hours", "(I)I"⟩ prog_13_method_61_code 3 (Option.some Jvm.ClassFile.FieldType.int) ∈ gT := gT_6 191 rfl rfl
set_option maxRecDepth 20000 in
theorem wm_t1392 : Cond.methodLink "SoupCargoModel" 344 ⟨"SoupCargoModel", "heapHour", "()V"⟩ ∈ gT := gT_6 192 rfl rfl
set_option maxRecDepth 20000 in
theorem wm_t1394 : Cond.instanceMethod ⟨"SoupCargoModel", "heapHour", "()V"⟩ ∈ gT := gT_6 194 rfl rfl
set_option maxRecDepth 20000 in
theorem wm_t1395 : Cond.code ⟨"SoupCargoModel", "heapHour", "()V"⟩ prog_13_method_51_code 5 (Option.none : Option Jvm.ClassFile.FieldType) ∈ gT := gT_6 195 rfl rfl
set_option maxRecDepth 20000 in
theorem wm_t1396 : Cond.methodLink "SoupCargoModel" 303 ⟨"SoupCargoModel", "more", "(II)I"⟩ ∈ gT := gT_6 196 rfl rfl
set_option maxRecDepth 20000 in
theorem wm_t1398 : Cond.instanceMethod ⟨"SoupCargoModel", "more", "(II)I"⟩ ∈ gT := gT_6 198 rfl rfl
set_option maxRecDepth 20000 in
theorem wm_t1399 : Cond.code ⟨"SoupCargoModel", "more", "(II)I"⟩ prog_13_method_50_code 3 (Option.some Jvm.ClassFile.FieldType.int) ∈ gT := gT_6 199 rfl rfl
set_option maxRecDepth 20000 in
theorem wm_t1400 : Cond.methodLink "SoupCargoModel" 309 ⟨"SoupCargoModel", "cut", "(II)I"⟩ ∈ gT := gT_6 200 rfl rfl
set_option maxRecDepth 20000 in
theorem wm_t1402 : Cond.instanceMethod ⟨"SoupCargoModel", "cut", "(II)I"⟩ ∈ gT := gT_6 202 rfl rfl
set_option maxRecDepth 20000 in
theorem wm_t1403 : Cond.code ⟨"SoupCargoModel", "cut", "(II)I"⟩ prog_13_method_45_code 3 (Option.some Jvm.ClassFile.FieldType.int) ∈ gT := gT_6 203 rfl rfl
set_option maxRecDepth 20000 in
theorem wm_t1404 : Cond.methodLink "SoupCargoModel" 350 ⟨"SoupCargoModel", "shipHour", "(II)V"⟩ ∈ gT := gT_6 204 rfl rfl
set_option maxRecDepth 20000 in
theorem wm_t1406 : Cond.instanceMethod ⟨"SoupCargoModel", "shipHour", "(II)V"⟩ ∈ gT := gT_6 206 rfl rfl
set_option maxRecDepth 20000 in
theorem wm_t1407 : Cond.code ⟨"SoupCargoModel", "shipHour", "(II)V"⟩ prog_13_method_60_code 8 (Option.none : Option Jvm.ClassFile.FieldType) ∈ gT := gT_6 207 rfl rfl
set_option maxRecDepth 20000 in
theorem wm_t1408 : Cond.methodLink "SoupCargoModel" 323 ⟨"SoupCargoModel", "shakes", "(II)V"⟩ ∈ gT := gT_6 208 rfl rfl
set_option maxRecDepth 20000 in
theorem wm_t1410 : Cond.instanceMethod ⟨"SoupCargoModel", "shakes", "(II)V"⟩ ∈ gT := gT_6 210 rfl rfl
set_option maxRecDepth 20000 in
theorem wm_t1411 : Cond.code ⟨"SoupCargoModel", "shakes", "(II)V"⟩ prog_13_method_52_code 4 (Option.none : Option Jvm.ClassFile.FieldType) ∈ gT := gT_6 211 rfl rfl
set_option maxRecDepth 20000 in
theorem wm_t1412 : Cond.methodLink "SoupCargoModel" 326 ⟨"SoupCargoModel", "shipWater", "(II)V"⟩ ∈ gT := gT_6 212 rfl rfl
set_option maxRecDepth 20000 in
theorem wm_t1414 : Cond.instanceMethod ⟨"SoupCargoModel", "shipWater", "(II)V"⟩ ∈ gT := gT_6 214 rfl rfl
set_option maxRecDepth 20000 in
theorem wm_t1415 : Cond.code ⟨"SoupCargoModel", "shipWater", "(II)V"⟩ prog_13_method_53_code 6 (Option.none : Option Jvm.ClassFile.FieldType) ∈ gT := gT_6 215 rfl rfl
set_option maxRecDepth 20000 in
theorem wm_t1416 : Cond.methodLink "SoupCargoModel" 329 ⟨"SoupCargoModel", "momentOf", "(I)I"⟩ ∈ gT := gT_6 216 rfl rfl
set_option maxRecDepth 20000 in
theorem wm_t1418 : Cond.instanceMethod ⟨"SoupCargoModel", "momentOf", "(I)I"⟩ ∈ gT := gT_6 218 rfl rfl
set_option maxRecDepth 20000 in
theorem wm_t1419 : Cond.code ⟨"SoupCargoModel", "momentOf", "(I)I"⟩ prog_13_method_55_code 4 (Option.some Jvm.ClassFile.FieldType.int) ∈ gT := gT_6 219 rfl rfl
set_option maxRecDepth 20000 in
theorem wm_t1420 : Cond.methodLink "SoupCargoModel" 312 ⟨"SoupCargoModel", "columnArm", "(I)I"⟩ ∈ gT := gT_6 220 rfl rfl
set_option maxRecDepth 20000 in
theorem wm_t1422 : Cond.instanceMethod ⟨"SoupCargoModel", "columnArm", "(I)I"⟩ ∈ gT := gT_6 222 rfl rfl
set_option maxRecDepth 20000 in
theorem wm_t1423 : Cond.code ⟨"SoupCargoModel", "columnArm", "(I)I"⟩ prog_13_method_54_code 2 (Option.some Jvm.ClassFile.FieldType.int) ∈ gT := gT_6 223 rfl rfl
set_option maxRecDepth 20000 in
theorem wm_t1424 : Cond.methodLink "SoupCargoModel" 332 ⟨"SoupCargoModel", "weightOf", "(I)I"⟩ ∈ gT := gT_6 224 rfl rfl
set_option maxRecDepth 20000 in
theorem wm_t1426 : Cond.instanceMethod ⟨"SoupCargoModel", "weightOf", "(I)I"⟩ ∈ gT := gT_6 226 rfl rfl
set_option maxRecDepth 20000 in
theorem wm_t1427 : Cond.code ⟨"SoupCargoModel", "weightOf", "(I)I"⟩ prog_13_method_56_code 4 (Option.some Jvm.ClassFile.FieldType.int) ∈ gT := gT_6 227 rfl rfl
set_option maxRecDepth 20000 in
theorem wm_t1428 : Cond.methodLink "SoupCargoModel" 335 ⟨"SoupCargoModel", "leanOf", "(II)I"⟩ ∈ gT := gT_6 228 rfl rfl
set_option maxRecDepth 20000 in
theorem wm_t1430 : Cond.instanceMethod ⟨"SoupCargoModel", "leanOf", "(II)I"⟩ ∈ gT := gT_6 230 rfl rfl
set_option maxRecDepth 20000 in
theorem wm_t1431 : Cond.code ⟨"SoupCargoModel", "leanOf", "(II)I"⟩ prog_13_method_58_code 6 (Option.some Jvm.ClassFile.FieldType.int) ∈ gT := gT_6 231 rfl rfl
set_option maxRecDepth 20000 in
theorem wm_t1432 : Cond.constantLong "SoupCargoModel" 315 (200 : Int64) ∈ gT := gT_6 232 rfl rfl
set_option maxRecDepth 20000 in
theorem wm_t1433 : Cond.methodLink "SoupCargoModel" 317 ⟨"SoupCargoModel", "armAt", "(I)I"⟩ ∈ gT := gT_6 233 rfl rfl
set_option maxRecDepth 20000 in
theorem wm_t1435 : Cond.instanceMethod ⟨"SoupCargoModel", "armAt", "(I)I"⟩ ∈ gT := gT_6 235 rfl rfl
set_option maxRecDepth 20000 in
theorem wm_t1436 : Cond.code ⟨"SoupCargoModel", "armAt", "(I)I"⟩ prog_13_method_57_code 3 (Option.some Jvm.ClassFile.FieldType.int) ∈ gT := gT_6 236 rfl rfl
set_option maxRecDepth 20000 in
theorem wm_t1437 : Cond.constant "SoupCargoModel" 338 (1664525) ∈ gT := gT_6 237 rfl rfl
set_option maxRecDepth 20000 in
theorem wm_t1438 : Cond.constant "SoupCargoModel" 339 (1013904223) ∈ gT := gT_6 238 rfl rfl
set_option maxRecDepth 20000 in
theorem wm_t1439 : Cond.methodLink "SoupCargoModel" 340 ⟨"SoupCargoModel", "flows", "(IIIII)V"⟩ ∈ gT := gT_6 239 rfl rfl
set_option maxRecDepth 20000 in
theorem wm_t1441 : Cond.instanceMethod ⟨"SoupCargoModel", "flows", "(IIIII)V"⟩ ∈ gT := gT_7 1 rfl rfl
set_option maxRecDepth 20000 in
theorem wm_t1442 : Cond.code ⟨"SoupCargoModel", "flows", "(IIIII)V"⟩ prog_13_method_59_code 10 (Option.none : Option Jvm.ClassFile.FieldType) ∈ gT := gT_7 2 rfl rfl
set_option maxRecDepth 20000 in
theorem wm_t1443 : Cond.methodLink "SoupCargoModel" 320 ⟨"SoupCargoModel", "height", "(I)I"⟩ ∈ gT := gT_7 3 rfl rfl
set_option maxRecDepth 20000 in
theorem wm_t1445 : Cond.instanceMethod ⟨"SoupCargoModel", "height", "(I)I"⟩ ∈ gT := gT_7 5 rfl rfl
set_option maxRecDepth 20000 in
theorem wm_t1446 : Cond.code ⟨"SoupCargoModel", "height", "(I)I"⟩ prog_13_method_12_code 3 (Option.some Jvm.ClassFile.FieldType.int) ∈ gT := gT_7 6 rfl rfl
set_option maxRecDepth 20000 in
theorem wm_t1447 : Cond.methodLink "SoupCargoLaw" 63 ⟨"SoupCargoModel", "load", "(IIII)Z"⟩ ∈ gT := gT_7 7 rfl rfl
set_option maxRecDepth 20000 in
theorem wm_t1448 : Cond.instanceMethod ⟨"SoupCargoModel", "load", "(IIII)Z"⟩ ∈ gT := gT_7 8 rfl rfl
set_option maxRecDepth 20000 in
theorem wm_t1449 : Cond.selects "SoupCargoModel" ⟨"SoupCargoModel", "load", "(IIII)Z"⟩ ⟨"SoupCargoModel", "load", "(IIII)Z"⟩ ∈ gT := gT_7 9 rfl rfl
set_option maxRecDepth 20000 in
theorem wm_t1450 : Cond.code ⟨"SoupCargoModel", "load", "(IIII)Z"⟩ prog_13_method_62_code 9 (Option.some Jvm.ClassFile.FieldType.boolean) ∈ gT := gT_7 10 rfl rfl
set_option maxRecDepth 20000 in
theorem wm_t1451 : Cond.methodLink "SoupCargoLaw" 68 ⟨"SoupCargoModel", "arm", "(II)Z"⟩ ∈ gT := gT_7 11 rfl rfl
set_option maxRecDepth 20000 in
theorem wm_t1452 : Cond.instanceMethod ⟨"SoupCargoModel", "arm", "(II)Z"⟩ ∈ gT := gT_7 12 rfl rfl
set_option maxRecDepth 20000 in
theorem wm_t1453 : Cond.selects "SoupCargoModel" ⟨"SoupCargoModel", "arm", "(II)Z"⟩ ⟨"SoupCargoModel", "arm", "(II)Z"⟩ ∈ gT := gT_7 13 rfl rfl
set_option maxRecDepth 20000 in
theorem wm_t1454 : Cond.code ⟨"SoupCargoModel", "arm", "(II)Z"⟩ prog_13_method_63_code 3 (Option.some Jvm.ClassFile.FieldType.boolean) ∈ gT := gT_7 14 rfl rfl
set_option maxRecDepth 20000 in
theorem wm_t1455 : Cond.methodLink "SoupCargoLaw" 72 ⟨"SoupCargoModel", "sail", "(I)Z"⟩ ∈ gT := gT_7 15 rfl rfl
set_option maxRecDepth 20000 in
theorem wm_t1456 : Cond.instanceMethod ⟨"SoupCargoModel", "sail", "(I)Z"⟩ ∈ gT := gT_7 16 rfl rfl
set_option maxRecDepth 20000 in
theorem wm_t1457 : Cond.selects "SoupCargoModel" ⟨"SoupCargoModel", "sail", "(I)Z"⟩ ⟨"SoupCargoModel", "sail", "(I)Z"⟩ ∈ gT := gT_7 17 rfl rfl
set_option maxRecDepth 20000 in
theorem wm_t1458 : Cond.code ⟨"SoupCargoModel", "sail", "(I)Z"⟩ prog_13_method_64_code 2 (Option.some Jvm.ClassFile.FieldType.boolean) ∈ gT := gT_7 18 rfl rfl
set_option maxRecDepth 20000 in
theorem wm_t1459 : Cond.methodLink "SoupCargoLaw" 76 ⟨"SoupCargoModel", "ship", "(I)I"⟩ ∈ gT := gT_7 19 rfl rfl
set_option maxRecDepth 20000 in
theorem wm_t1460 : Cond.instanceMethod ⟨"SoupCargoModel", "ship", "(I)I"⟩ ∈ gT := gT_7 20 rfl rfl
set_option maxRecDepth 20000 in
theorem wm_t1461 : Cond.selects "SoupCargoModel" ⟨"SoupCargoModel", "ship", "(I)I"⟩ ⟨"SoupCargoModel", "ship", "(I)I"⟩ ∈ gT := gT_7 21 rfl rfl
set_option maxRecDepth 20000 in
theorem wm_t1462 : Cond.code ⟨"SoupCargoModel", "ship", "(I)I"⟩ prog_13_method_66_code 4 (Option.some Jvm.ClassFile.FieldType.int) ∈ gT := gT_7 22 rfl rfl
set_option maxRecDepth 20000 in
theorem wm_t1463 : Cond.methodLink "SoupCargoModel" 353 ⟨"SoupCargoModel", "loaded", "()I"⟩ ∈ gT := gT_7 23 rfl rfl
set_option maxRecDepth 20000 in
theorem wm_t1465 : Cond.instanceMethod ⟨"SoupCargoModel", "loaded", "()I"⟩ ∈ gT := gT_7 25 rfl rfl
set_option maxRecDepth 20000 in
theorem wm_t1466 : Cond.code ⟨"SoupCargoModel", "loaded", "()I"⟩ prog_13_method_65_code 3 (Option.some Jvm.ClassFile.FieldType.int) ∈ gT := gT_7 26 rfl rfl
set_option maxRecDepth 20000 in
theorem wm_t1467 : Cond.methodLink "SoupCargoLaw" 80 ⟨"SoupCargoModel", "arms", "(I)I"⟩ ∈ gT := gT_7 27 rfl rfl
set_option maxRecDepth 20000 in
theorem wm_t1468 : Cond.instanceMethod ⟨"SoupCargoModel", "arms", "(I)I"⟩ ∈ gT := gT_7 28 rfl rfl
set_option maxRecDepth 20000 in
theorem wm_t1469 : Cond.selects "SoupCargoModel" ⟨"SoupCargoModel", "arms", "(I)I"⟩ ⟨"SoupCargoModel", "arms", "(I)I"⟩ ∈ gT := gT_7 29 rfl rfl
set_option maxRecDepth 20000 in
theorem wm_t1470 : Cond.code ⟨"SoupCargoModel", "arms", "(I)I"⟩ prog_13_method_67_code 2 (Option.some Jvm.ClassFile.FieldType.int) ∈ gT := gT_7 30 rfl rfl
set_option maxRecDepth 20000 in
theorem wm_t1471 : Cond.methodLink "SoupCargoLaw" 89 ⟨"SoupCargoModel", "split", "(II)I"⟩ ∈ gT := gT_7 31 rfl rfl
set_option maxRecDepth 20000 in
theorem wm_t1472 : Cond.instanceMethod ⟨"SoupCargoModel", "split", "(II)I"⟩ ∈ gT := gT_7 32 rfl rfl
set_option maxRecDepth 20000 in
theorem wm_t1473 : Cond.selects "SoupCargoModel" ⟨"SoupCargoModel", "split", "(II)I"⟩ ⟨"SoupCargoModel", "split", "(II)I"⟩ ∈ gT := gT_7 33 rfl rfl
set_option maxRecDepth 20000 in
theorem wm_t1474 : Cond.code ⟨"SoupCargoModel", "split", "(II)I"⟩ prog_13_method_69_code 10 (Option.some Jvm.ClassFile.FieldType.int) ∈ gT := gT_7 34 rfl rfl
set_option maxRecDepth 20000 in
theorem wm_t1475 : Cond.methodLink "SoupCargoModel" 356 ⟨"SoupCargoModel", "worstKept", "(I)I"⟩ ∈ gT := gT_7 35 rfl rfl
set_option maxRecDepth 20000 in
theorem wm_t1477 : Cond.instanceMethod ⟨"SoupCargoModel", "worstKept", "(I)I"⟩ ∈ gT := gT_7 37 rfl rfl
set_option maxRecDepth 20000 in
theorem wm_t1478 : Cond.code ⟨"SoupCargoModel", "worstKept", "(I)I"⟩ prog_13_method_70_code 2 (Option.some Jvm.ClassFile.FieldType.int) ∈ gT := gT_7 38 rfl rfl
set_option maxRecDepth 20000 in
theorem wm_t1479 : Cond.methodLink "SoupCargoModel" 359 ⟨"SoupCargoModel", "worstOf", "(I)I"⟩ ∈ gT := gT_7 39 rfl rfl
set_option maxRecDepth 20000 in
theorem wm_t1481 : Cond.instanceMethod ⟨"SoupCargoModel", "worstOf", "(I)I"⟩ ∈ gT := gT_7 41 rfl rfl
set_option maxRecDepth 20000 in
theorem wm_t1482 : Cond.code ⟨"SoupCargoModel", "worstOf", "(I)I"⟩ prog_13_method_68_code 4 (Option.some Jvm.ClassFile.FieldType.int) ∈ gT := gT_7 42 rfl rfl
set_option maxRecDepth 20000 in
theorem wm_t1483 : Cond.methodLink "SoupCargoLaw" 94 ⟨"SoupCargoModel", "can", "(III)I"⟩ ∈ gT := gT_7 43 rfl rfl
set_option maxRecDepth 20000 in
theorem wm_t1484 : Cond.instanceMethod ⟨"SoupCargoModel", "can", "(III)I"⟩ ∈ gT := gT_7 44 rfl rfl
set_option maxRecDepth 20000 in
theorem wm_t1485 : Cond.selects "SoupCargoModel" ⟨"SoupCargoModel", "can", "(III)I"⟩ ⟨"SoupCargoModel", "can", "(III)I"⟩ ∈ gT := gT_7 45 rfl rfl
set_option maxRecDepth 20000 in
theorem wm_t1486 : Cond.code ⟨"SoupCargoModel", "can", "(III)I"⟩ prog_13_method_71_code 5 (Option.some Jvm.ClassFile.FieldType.int) ∈ gT := gT_7 46 rfl rfl
set_option maxRecDepth 20000 in
theorem wm_t1487 : Cond.methodLink "SoupCargoLaw" 98 ⟨"SoupCargoModel", "step", "(I)Z"⟩ ∈ gT := gT_7 47 rfl rfl
set_option maxRecDepth 20000 in
theorem wm_t1488 : Cond.instanceMethod ⟨"SoupCargoModel", "step", "(I)Z"⟩ ∈ gT := gT_7 48 rfl rfl
set_option maxRecDepth 20000 in
theorem wm_t1489 : Cond.selects "SoupCargoModel" ⟨"SoupCargoModel", "step", "(I)Z"⟩ ⟨"SoupCargoModel", "step", "(I)Z"⟩ ∈ gT := gT_7 49 rfl rfl
set_option maxRecDepth 20000 in
theorem wm_t1490 : Cond.code ⟨"SoupCargoModel", "step", "(I)Z"⟩ prog_13_method_72_code 2 (Option.some Jvm.ClassFile.FieldType.boolean) ∈ gT := gT_7 50 rfl rfl
set_option maxRecDepth 20000 in
theorem wm_t1491 : Cond.methodLink "SoupCargoLaw" 102 ⟨"SoupCargoModel", "span", "(IIIII)I"⟩ ∈ gT := gT_7 51 rfl rfl
set_option maxRecDepth 20000 in
theorem wm_t1492 : Cond.instanceMethod ⟨"SoupCargoModel", "span", "(IIIII)I"⟩ ∈ gT := gT_7 52 rfl rfl
set_option maxRecDepth 20000 in
theorem wm_t1493 : Cond.selects "SoupCargoModel" ⟨"SoupCargoModel", "span", "(IIIII)I"⟩ ⟨"SoupCargoModel", "span", "(IIIII)I"⟩ ∈ gT := gT_7 53 rfl rfl
set_option maxRecDepth 20000 in
theorem wm_t1494 : Cond.code ⟨"SoupCargoModel", "span", "(IIIII)I"⟩ prog_13_method_77_code 7 (Option.some Jvm.ClassFile.FieldType.int) ∈ gT := gT_7 54 rfl rfl
set_option maxRecDepth 20000 in
theorem wm_t1495 : Cond.methodLink "SoupCargoModel" 371 ⟨"SoupCargoModel", "isHour", "(I)Z"⟩ ∈ gT := gT_7 55 rfl rfl
set_option maxRecDepth 20000 in
theorem wm_t1497 : Cond.instanceMethod ⟨"SoupCargoModel", "isHour", "(I)Z"⟩ ∈ gT := gT_7 57 rfl rfl
set_option maxRecDepth 20000 in
theorem wm_t1498 : Cond.code ⟨"SoupCargoModel", "isHour", "(I)Z"⟩ prog_13_method_76_code 2 (Option.some Jvm.ClassFile.FieldType.boolean) ∈ gT := gT_7 58 rfl rfl
set_option maxRecDepth 20000 in
theorem wm_t1499 : Cond.methodLink "SoupCargoModel" 374 ⟨"SoupCargoModel", "endOf", "(IIZ)I"⟩ ∈ gT := gT_7 59 rfl rfl
set_option maxRecDepth 20000 in
theorem wm_t1501 : Cond.instanceMethod ⟨"SoupCargoModel", "endOf", "(IIZ)I"⟩ ∈ gT := gT_7 61 rfl rfl
set_option maxRecDepth 20000 in
theorem wm_t1502 : Cond.code ⟨"SoupCargoModel", "endOf", "(IIZ)I"⟩ prog_13_method_75_code 7 (Option.some Jvm.ClassFile.FieldType.int) ∈ gT := gT_7 62 rfl rfl
set_option maxRecDepth 20000 in
theorem wm_t1503 : Cond.methodLink "SoupCargoModel" 368 ⟨"SoupCargoModel", "distance", "(II)I"⟩ ∈ gT := gT_7 63 rfl rfl
set_option maxRecDepth 20000 in
theorem wm_t1505 : Cond.instanceMethod ⟨"SoupCargoModel", "distance", "(II)I"⟩ ∈ gT := gT_7 65 rfl rfl
set_option maxRecDepth 20000 in
theorem wm_t1506 : Cond.code ⟨"SoupCargoModel", "distance", "(II)I"⟩ prog_13_method_74_code 3 (Option.some Jvm.ClassFile.FieldType.int) ∈ gT := gT_7 66 rfl rfl
set_option maxRecDepth 20000 in
theorem wm_t1507 : Cond.methodLink "SoupCargoModel" 365 ⟨"SoupCargoModel", "apart", "(II)I"⟩ ∈ gT := gT_7 67 rfl rfl
set_option maxRecDepth 20000 in
theorem wm_t1509 : Cond.instanceMethod ⟨"SoupCargoModel", "apart", "(II)I"⟩ ∈ gT := gT_7 69 rfl rfl
set_option maxRecDepth 20000 in
theorem wm_t1510 : Cond.code ⟨"SoupCargoModel", "apart", "(II)I"⟩ prog_13_method_73_code 3 (Option.some Jvm.ClassFile.FieldType.int) ∈ gT := gT_7 70 rfl rfl
set_option maxRecDepth 20000 in
theorem wm_t1511 : Cond.methodLink "SoupCargoLaw" 106 ⟨"SoupCargoModel", "mean", "(II)I"⟩ ∈ gT := gT_7 71 rfl rfl
set_option maxRecDepth 20000 in
theorem wm_t1512 : Cond.instanceMethod ⟨"SoupCargoModel", "mean", "(II)I"⟩ ∈ gT := gT_7 72 rfl rfl
set_option maxRecDepth 20000 in
theorem wm_t1513 : Cond.selects "SoupCargoModel" ⟨"SoupCargoModel", "mean", "(II)I"⟩ ⟨"SoupCargoModel", "mean", "(II)I"⟩ ∈ gT := gT_7 73 rfl rfl
set_option maxRecDepth 20000 in
theorem wm_t1514 : Cond.code ⟨"SoupCargoModel", "mean", "(II)I"⟩ prog_13_method_79_code 5 (Option.some Jvm.ClassFile.FieldType.int) ∈ gT := gT_7 74 rfl rfl
set_option maxRecDepth 20000 in
theorem wm_t1515 : Cond.methodLink "SoupCargoModel" 378 ⟨"SoupCargoModel", "meanOf", "(IZ)I"⟩ ∈ gT := gT_7 75 rfl rfl
set_option maxRecDepth 20000 in
theorem wm_t1517 : Cond.instanceMethod ⟨"SoupCargoModel", "meanOf", "(IZ)I"⟩ ∈ gT := gT_7 77 rfl rfl
set_option maxRecDepth 20000 in
theorem wm_t1518 : Cond.code ⟨"SoupCargoModel", "meanOf", "(IZ)I"⟩ prog_13_method_78_code 6 (Option.some Jvm.ClassFile.FieldType.int) ∈ gT := gT_7 78 rfl rfl
set_option maxRecDepth 20000 in
theorem wm_t1519 : Cond.methodLink "SoupCargoLaw" 110 ⟨"SoupCargoModel", "paper", "(I)Z"⟩ ∈ gT := gT_7 79 rfl rfl
set_option maxRecDepth 20000 in
theorem wm_t1520 : Cond.instanceMethod ⟨"SoupCargoModel", "paper", "(I)Z"⟩ ∈ gT := gT_7 80 rfl rfl
set_option maxRecDepth 20000 in
theorem wm_t1521 : Cond.selects "SoupCargoModel" ⟨"SoupCargoModel", "paper", "(I)Z"⟩ ⟨"SoupCargoModel", "paper", "(I)Z"⟩ ∈ gT := gT_7 81 rfl rfl
set_option maxRecDepth 20000 in
theorem wm_t1522 : Cond.code ⟨"SoupCargoModel", "paper", "(I)Z"⟩ prog_13_method_80_code 2 (Option.some Jvm.ClassFile.FieldType.boolean) ∈ gT := gT_7 82 rfl rfl
set_option maxRecDepth 20000 in
theorem wm_t1523 : Cond.methodLink "SoupCargoLaw" 114 ⟨"SoupCargoModel", "place", "(IIII)Z"⟩ ∈ gT := gT_7 83 rfl rfl
set_option maxRecDepth 20000 in
theorem wm_t1524 : Cond.instanceMethod ⟨"SoupCargoModel", "place", "(IIII)Z"⟩ ∈ gT := gT_7 84 rfl rfl
set_option maxRecDepth 20000 in
theorem wm_t1525 : Cond.selects "SoupCargoModel" ⟨"SoupCargoModel", "place", "(IIII)Z"⟩ ⟨"SoupCargoModel", "place", "(IIII)Z"⟩ ∈ gT := gT_7 85 rfl rfl
set_option maxRecDepth 20000 in
theorem wm_t1526 : Cond.code ⟨"SoupCargoModel", "place", "(IIII)Z"⟩ prog_13_method_81_code 6 (Option.some Jvm.ClassFile.FieldType.boolean) ∈ gT := gT_7 86 rfl rfl
set_option maxRecDepth 20000 in
theorem wm_t1527 : Cond.methodLink "SoupCargoLaw" 118 ⟨"SoupCargoModel", "fair", "(I)I"⟩ ∈ gT := gT_7 87 rfl rfl
set_option maxRecDepth 20000 in
theorem wm_t1528 : Cond.instanceMethod ⟨"SoupCargoModel", "fair", "(I)I"⟩ ∈ gT := gT_7 88 rfl rfl
set_option maxRecDepth 20000 in
theorem wm_t1529 : Cond.selects "SoupCargoModel" ⟨"SoupCargoModel", "fair", "(I)I"⟩ ⟨"SoupCargoModel", "fair", "(I)I"⟩ ∈ gT := gT_7 89 rfl rfl
set_option maxRecDepth 20000 in
theorem wm_t1530 : Cond.code ⟨"SoupCargoModel", "fair", "(I)I"⟩ prog_13_method_84_code 5 (Option.some Jvm.ClassFile.FieldType.int) ∈ gT := gT_7 90 rfl rfl
set_option maxRecDepth 20000 in
theorem wm_t1531 : Cond.methodLink "SoupCargoModel" 382 ⟨"SoupCargoModel", "ones", "(I)I"⟩ ∈ gT := gT_7 91 rfl rfl
set_option maxRecDepth 20000 in
theorem wm_t1533 : Cond.instanceMethod ⟨"SoupCargoModel", "ones", "(I)I"⟩ ∈ gT := gT_7 93 rfl rfl
set_option maxRecDepth 20000 in
theorem wm_t1534 : Cond.code ⟨"SoupCargoModel", "ones", "(I)I"⟩ prog_13_method_82_code 4 (Option.some Jvm.ClassFile.FieldType.int) ∈ gT := gT_7 94 rfl rfl
set_option maxRecDepth 20000 in
theorem wm_t1535 : Cond.methodLink "SoupCargoModel" 385 ⟨"SoupCargoModel", "isFair", "(I)Z"⟩ ∈ gT := gT_7 95 rfl rfl
set_option maxRecDepth 20000 in
theorem wm_t1537 : Cond.instanceMethod ⟨"SoupCargoModel", "isFair", "(I)Z"⟩ ∈ gT := gT_7 97 rfl rfl
set_option maxRecDepth 20000 in
theorem wm_t1538 : Cond.code ⟨"SoupCargoModel", "isFair", "(I)Z"⟩ prog_13_method_83_code 3 (Option.some Jvm.ClassFile.FieldType.boolean) ∈ gT := gT_7 98 rfl rfl
set_option maxRecDepth 20000 in
theorem wm_t1539 : Cond.methodLink "SoupCargoLaw" 122 ⟨"SoupCargoModel", "may", "(II)I"⟩ ∈ gT := gT_7 99 rfl rfl
set_option maxRecDepth 20000 in
theorem wm_t1540 : Cond.instanceMethod ⟨"SoupCargoModel", "may", "(II)I"⟩ ∈ gT := gT_7 100 rfl rfl
set_option maxRecDepth 20000 in
theorem wm_t1541 : Cond.selects "SoupCargoModel" ⟨"SoupCargoModel", "may", "(II)I"⟩ ⟨"SoupCargoModel", "may", "(II)I"⟩ ∈ gT := gT_7 101 rfl rfl
set_option maxRecDepth 20000 in
theorem wm_t1542 : Cond.code ⟨"SoupCargoModel", "may", "(II)I"⟩ prog_13_method_86_code 4 (Option.some Jvm.ClassFile.FieldType.int) ∈ gT := gT_7 102 rfl rfl
set_option maxRecDepth 20000 in
theorem wm_t1543 : Cond.methodLink "SoupCargoModel" 388 ⟨"SoupCargoModel", "isSo", "(II)Z"⟩ ∈ gT := gT_7 103 rfl rfl
set_option maxRecDepth 20000 in
theorem wm_t1545 : Cond.instanceMethod ⟨"SoupCargoModel", "isSo", "(II)Z"⟩ ∈ gT := gT_7 105 rfl rfl
set_option maxRecDepth 20000 in
theorem wm_t1546 : Cond.code ⟨"SoupCargoModel", "isSo", "(II)Z"⟩ prog_13_method_85_code 4 (Option.some Jvm.ClassFile.FieldType.boolean) ∈ gT := gT_7 106 rfl rfl
set_option maxRecDepth 20000 in
theorem wm_t1547 : Cond.methodLink "SoupCargoLaw" 126 ⟨"SoupCargoModel", "let", "(II)I"⟩ ∈ gT := gT_7 107 rfl rfl
set_option maxRecDepth 20000 in
theorem wm_t1548 : Cond.instanceMethod ⟨"SoupCargoModel", "let", "(II)I"⟩ ∈ gT := gT_7 108 rfl rfl
set_option maxRecDepth 20000 in
theorem wm_t1549 : Cond.selects "SoupCargoModel" ⟨"SoupCargoModel", "let", "(II)I"⟩ ⟨"SoupCargoModel", "let", "(II)I"⟩ ∈ gT := gT_7 109 rfl rfl
set_option maxRecDepth 20000 in
theorem wm_t1550 : Cond.code ⟨"SoupCargoModel", "let", "(II)I"⟩ prog_13_method_87_code 7 (Option.some Jvm.ClassFile.FieldType.int) ∈ gT := gT_7 110 rfl rfl
set_option maxRecDepth 20000 in
theorem wm_t1551 : Cond.constant "SoupCargoModel" 392 (1000000) ∈ gT := gT_7 111 rfl rfl
set_option maxRecDepth 20000 in
theorem wm_t1552 : Cond.methodLink "SoupCargoLaw" 130 ⟨"SoupCargoModel", "port", "(I)I"⟩ ∈ gT := gT_7 112 rfl rfl
set_option maxRecDepth 20000 in
theorem wm_t1553 : Cond.instanceMethod ⟨"SoupCargoModel", "port", "(I)I"⟩ ∈ gT := gT_7 113 rfl rfl
set_option maxRecDepth 20000 in
theorem wm_t1554 : Cond.selects "SoupCargoModel" ⟨"SoupCargoModel", "port", "(I)I"⟩ ⟨"SoupCargoModel", "port", "(I)I"⟩ ∈ gT := gT_7 114 rfl rfl
set_option maxRecDepth 20000 in
theorem wm_t1555 : Cond.code ⟨"SoupCargoModel", "port", "(I)I"⟩ prog_13_method_88_code 2 (Option.some Jvm.ClassFile.FieldType.int) ∈ gT := gT_7 115 rfl rfl
set_option maxRecDepth 20000 in
theorem wm_t1556 : Cond.methodLink "SoupCargoLaw" 134 ⟨"SoupCargoModel", "reach", "(I)I"⟩ ∈ gT := gT_7 116 rfl rfl
set_option maxRecDepth 20000 in
theorem wm_t1557 : Cond.instanceMethod ⟨"SoupCargoModel", "reach", "(I)I"⟩ ∈ gT := gT_7 117 rfl rfl
set_option maxRecDepth 20000 in
theorem wm_t1558 : Cond.selects "SoupCargoModel" ⟨"SoupCargoModel", "reach", "(I)I"⟩ ⟨"SoupCargoModel", "reach", "(I)I"⟩ ∈ gT := gT_7 118 rfl rfl
set_option maxRecDepth 20000 in
theorem wm_t1559 : Cond.code ⟨"SoupCargoModel", "reach", "(I)I"⟩ prog_13_method_90_code 4 (Option.some Jvm.ClassFile.FieldType.int) ∈ gT := gT_7 119 rfl rfl
set_option maxRecDepth 20000 in
theorem wm_t1560 : Cond.methodLink "SoupCargoModel" 396 ⟨"SoupCargoModel", "lasts", "(I)Z"⟩ ∈ gT := gT_7 120 rfl rfl
set_option maxRecDepth 20000 in
theorem wm_t1562 : Cond.instanceMethod ⟨"SoupCargoModel", "lasts", "(I)Z"⟩ ∈ gT := gT_7 122 rfl rfl
set_option maxRecDepth 20000 in
theorem wm_t1563 : Cond.code ⟨"SoupCargoModel", "lasts", "(I)Z"⟩ prog_13_method_89_code 3 (Option.some Jvm.ClassFile.FieldType.boolean) ∈ gT := gT_7 123 rfl rfl
set_option maxRecDepth 20000 in
theorem wm_t1564 : Cond.methodLink "SoupCargoLaw" 139 ⟨"SoupCargoModel", "list", "(IIIZ)I"⟩ ∈ gT := gT_7 124 rfl rfl
set_option maxRecDepth 20000 in
theorem wm_t1565 : Cond.instanceMethod ⟨"SoupCargoModel", "list", "(IIIZ)I"⟩ ∈ gT := gT_7 125 rfl rfl
set_option maxRecDepth 20000 in
theorem wm_t1566 : Cond.selects "SoupCargoModel" ⟨"SoupCargoModel", "list", "(IIIZ)I"⟩ ⟨"SoupCargoModel", "list", "(IIIZ)I"⟩ ∈ gT := gT_7 126 rfl rfl
set_option maxRecDepth 20000 in
theorem wm_t1567 : Cond.code ⟨"SoupCargoModel", "list", "(IIIZ)I"⟩ prog_13_method_91_code 5 (Option.some Jvm.ClassFile.FieldType.int) ∈ gT := gT_7 127 rfl rfl
set_option maxRecDepth 20000 in
theorem wm_t1568 : Cond.methodLink "SoupCargoLaw" 144 ⟨"SoupCargoModel", "risk", "(IIII)I"⟩ ∈ gT := gT_7 128 rfl rfl
set_option maxRecDepth 20000 in
theorem wm_t1569 : Cond.instanceMethod ⟨"SoupCargoModel", "risk", "(IIII)I"⟩ ∈ gT := gT_7 129 rfl rfl
set_option maxRecDepth 20000 in
theorem wm_t1570 : Cond.selects "SoupCargoModel" ⟨"SoupCargoModel", "risk", "(IIII)I"⟩ ⟨"SoupCargoModel", "risk", "(IIII)I"⟩ ∈ gT := gT_7 130 rfl rfl
set_option maxRecDepth 20000 in
theorem wm_t1571 : Cond.code ⟨"SoupCargoModel", "risk", "(IIII)I"⟩ prog_13_method_94_code 5 (Option.some Jvm.ClassFile.FieldType.int) ∈ gT := gT_7 131 rfl rfl
set_option maxRecDepth 20000 in
theorem wm_t1572 : Cond.methodLink "SoupCargoModel" 406 ⟨"SoupCargoModel", "worstHarbour", "()I"⟩ ∈ gT := gT_7 132 rfl rfl
set_option maxRecDepth 20000 in
theorem wm_t1574 : Cond.instanceMethod ⟨"SoupCargoModel", "worstHarbour", "()I"⟩ ∈ gT := gT_7 134 rfl rfl
set_option maxRecDepth 20000 in
theorem wm_t1575 : Cond.code ⟨"SoupCargoModel", "worstHarbour", "()I"⟩ prog_13_method_93_code 7 (Option.some Jvm.ClassFile.FieldType.int) ∈ gT := gT_7 135 rfl rfl
set_option maxRecDepth 20000 in
theorem wm_t1576 : Cond.methodLink "SoupCargoModel" 402 ⟨"SoupCargoModel", "countOf", "(IIIZ)I"⟩ ∈ gT := gT_7 136 rfl rfl
set_option maxRecDepth 20000 in
theorem wm_t1578 : Cond.instanceMethod ⟨"SoupCargoModel", "countOf", "(IIIZ)I"⟩ ∈ gT := gT_7 138 rfl rfl
set_option maxRecDepth 20000 in
theorem wm_t1579 : Cond.code ⟨"SoupCargoModel", "countOf", "(IIIZ)I"⟩ prog_13_method_92_code 8 (Option.some Jvm.ClassFile.FieldType.int) ∈ gT := gT_7 139 rfl rfl
set_option maxRecDepth 20000 in
theorem wm_t1580 : Cond.fieldLink "java/lang/String" 9 "java/lang/String" "value" "[B" ∈ gT := gT_7 140 rfl rfl
set_option maxRecDepth 20000 in
theorem wm_t1581 : Cond.fieldLink "java/lang/String" 15 "java/lang/String" "coder" "B" ∈ gT := gT_7 141 rfl rfl
