def fX8_wetAt (b : Nat) (σ : St) (a0 : Int32) : Option Int32 :=
(rdK (stN b) (σ (b + 1)) a0 fun v1 =>
(if v1 ≤ 0 then
some 0
else
(rdK (stN b) (σ (b + 2)) a0 fun v4 =>
(rdK (stN b) (σ (b + 1)) a0 fun v6 =>
(nz v6 (
some (v4 / v6)))))))
set_option maxHeartbeats 4000000 in
theorem c_fX8_wetAt {E : Ev} {l : Launch} {b : Nat} (hfb : fS b) (hj : jW true E) (σ : St) (sz : Nat) (a0 : Int32) {rr : Int32} (hf : fX8_wetAt b σ a0 = some rr) : Met l yX8_wetAt (Cond.code yX8_wetAt cX8_wetAt 2 (some .int) :: gT) (rmD 1) (va_Pc [.ref (ea E b), .int a0] (preW true E σ sz)) (QI true E rr σ sz) 0 0 (aW true E sz) := by
  refine r_entry (QI true E rr σ) hj (by decide) [.ref (ea E b), .int a0] (Nat.le_of_ble_eq_true rfl) (fun p e s m args below meth c C => ?_)
  intro H locs ls hP hS hl
  have hl : lv_has ls 2 [(0, .ref (ea E b)), (1, .int a0)] := hl
  obtain ⟨hx, hb, hr, hml, hown, hts, hlocks, hK, hX, hj⟩ := id C
  unfold fX8_wetAt at hf
  refine lv_aload_n hx hb dX8_wetAt_0 rfl (lv_at hl 0 rfl) ?_
  refine r_get (k := 3) (v := .ref (ea E (b + 1))) C hP (oS hfb) rfl iX8 (by decide) wm_49 rfl rfl dX8_wetAt_1 ?_
  refine lv_iload_n hx hb dX8_wetAt_4 rfl (lv_at hl 1 rfl) ?_
  have h2 := (rdK_e hf).1
  refine r_ald C hP (aS_1 hfb) h2 dX8_wetAt_5 ?_
  refine lv_topi (fun v1 ev1 => ?_)
  replace hf := rdK_n ev1 hf
  refine lv_if_le (tgt := 25) hx hb dX8_wetAt_6 (by decide) (fun c3 => ?_) (fun c3 => ?_)
  · replace hf := it_t c3 hf
    refine lv_iconst (v := 0) hx hb dX8_wetAt_25 (by decide) ?_
    cases hf
    exact r_iret C hP hS dX8_wetAt_26
  · replace hf := it_f c3 hf
    refine lv_aload_n hx hb dX8_wetAt_9 rfl (lv_at hl 0 rfl) ?_
    refine r_get (k := 4) (v := .ref (ea E (b + 2))) C hP (oS hfb) rfl iX8 (by decide) wm_53 rfl rfl dX8_wetAt_10 ?_
    refine lv_iload_n hx hb dX8_wetAt_13 rfl (lv_at hl 1 rfl) ?_
    have h5 := (rdK_e hf).1
    refine r_ald C hP (aS_2 hfb) h5 dX8_wetAt_14 ?_
    refine lv_topi (fun v4 ev4 => ?_)
    replace hf := rdK_n ev4 hf
    refine lv_aload_n hx hb dX8_wetAt_15 rfl (lv_at hl 0 rfl) ?_
    refine r_get (k := 3) (v := .ref (ea E (b + 1))) C hP (oS hfb) rfl iX8 (by decide) wm_49 rfl rfl dX8_wetAt_16 ?_
    refine lv_iload_n hx hb dX8_wetAt_19 rfl (lv_at hl 1 rfl) ?_
    have h7 := (rdK_e hf).1
    refine r_ald C hP (aS_1 hfb) h7 dX8_wetAt_20 ?_
    refine lv_topi (fun v6 ev6 => ?_)
    replace hf := rdK_n ev6 hf
    obtain ⟨h8, hf⟩ := nz_e hf
    refine lv_idiv hx hb dX8_wetAt_21 h8 ?_
    refine lv_goto (tgt := 26) hx hb dX8_wetAt_22 (by decide) ?_
    cases hf
    exact r_iret C hP hS dX8_wetAt_26
def fX10_within (a0 : Int32) (a1 : Int32) : Int32 :=
(if a0 < 0 then
0
else
(if a1 ≤ a0 then
0
else
1))
set_option maxHeartbeats 4000000 in
theorem c_fX10_within {E : Ev} {l : Launch} (hj : jW true E) (σ : St) (sz : Nat) (a0 : Int32) (a1 : Int32) : Met l yX10_within (Cond.code yX10_within cX10_within 2 (some .boolean) :: gT) (rmD 1) (va_Pc [.int a0, .int a1] (preW true E σ sz)) (QI true E (fX10_within a0 a1) σ sz) 0 0 (aW true E sz) := by
  refine r_entry (QI true E (fX10_within a0 a1) σ) hj (by decide) [.int a0, .int a1] (Nat.le_of_ble_eq_true rfl) (fun p e s m args below meth c C => ?_)
  intro H locs ls hP hS hl
  have hl : lv_has ls 2 [(0, .int a0), (1, .int a1)] := hl
  obtain ⟨hx, hb, hr, hml, hown, hts, hlocks, hK, hX, hj⟩ := id C
  generalize hf : fX10_within a0 a1 = rr
  unfold fX10_within at hf
  refine lv_iload_n hx hb dX10_within_0 rfl (lv_at hl 0 rfl) ?_
  refine lv_if_lt (tgt := 13) hx hb dX10_within_1 (by decide) (fun c1 => ?_) (fun c1 => ?_)
  · replace hf := it_t c1 hf
    refine lv_iconst (v := 0) hx hb dX10_within_13 (by decide) ?_
    subst hf
    exact r_zret C rfl hP hS dX10_within_14
  · replace hf := it_f c1 hf
    refine lv_iload_n hx hb dX10_within_4 rfl (lv_at hl 0 rfl) ?_
    refine lv_iload_n hx hb dX10_within_5 rfl (lv_at hl 1 rfl) ?_
    refine lv_icmp_ge (tgt := 13) hx hb dX10_within_6 (by decide) (fun c2 => ?_) (fun c2 => ?_)
    · replace hf := it_t c2 hf
      refine lv_iconst (v := 0) hx hb dX10_within_13 (by decide) ?_
      subst hf
      exact r_zret C rfl hP hS dX10_within_14
    · replace hf := it_f c2 hf
      refine lv_iconst (v := 1) hx hb dX10_within_9 (by decide) ?_
      refine lv_goto (tgt := 14) hx hb dX10_within_10 (by decide) ?_
      subst hf
      exact r_zret C rfl hP hS dX10_within_14
theorem z_fX10_within (a0 : Int32) (a1 : Int32) : fX10_within a0 a1 = 0 ∨ fX10_within a0 a1 = 1 := by
  unfold fX10_within
  repeat' split
  all_goals first | exact Or.inl rfl | exact Or.inr rfl
def fX10_heapCell (a0 : Int32) (a1 : Int32) (a2 : Int32) : Int32 :=
(if (fX10_within a0 8) = 0 then
(-1)
else
(if (fX10_within a1 8) = 0 then
(-1)
else
(if (fX10_within a2 4) = 0 then
(-1)
else
((((a0 * 8) + a1) * 4) + a2))))
set_option maxHeartbeats 4000000 in
theorem c_fX10_heapCell {E : Ev} {l : Launch} (hj : jW true E) (σ : St) (sz : Nat) (a0 : Int32) (a1 : Int32) (a2 : Int32) : Met l yX10_heapCell (Cond.code yX10_heapCell cX10_heapCell 3 (some .int) :: gT) (rmD 2) (va_Pc [.int a0, .int a1, .int a2] (preW true E σ sz)) (QI true E (fX10_heapCell a0 a1 a2) σ sz) 0 0 (aW true E sz) := by
  refine r_entry (QI true E (fX10_heapCell a0 a1 a2) σ) hj (by decide) [.int a0, .int a1, .int a2] (Nat.le_of_ble_eq_true rfl) (fun p e s m args below meth c C => ?_)
  intro H locs ls hP hS hl
  have hl : lv_has ls 3 [(0, .int a0), (1, .int a1), (2, .int a2)] := hl
  obtain ⟨hx, hb, hr, hml, hown, hts, hlocks, hK, hX, hj⟩ := id C
  generalize hf : fX10_heapCell a0 a1 a2 = rr
  unfold fX10_heapCell at hf
  refine lv_iload_n hx hb dX10_heapCell_0 rfl (lv_at hl 0 rfl) ?_
  refine lv_bipush (v := 8) hx hb dX10_heapCell_1 (by decide) ?_
  refine r_cSi (n := 2) (As := [.int a0, .int 8]) (rest := []) C (c_fX10_within hj σ H.size a0 8) gs_RX10_85 (by decide +kernel) ⟨rfl, rfl, by decide, by decide⟩ rfl rfl (Nat.le_of_ble_eq_true rfl) dX10_heapCell_3 hP hS hl.1 (fun H locs hP hS => ?_)
  refine lv_if_eq (tgt := 26) hx hb dX10_heapCell_6 (by decide) (fun c1 => ?_) (fun c1 => ?_)
  · replace hf := it_t c1 hf
    refine lv_iconst (v := (-1)) hx hb dX10_heapCell_26 (by decide) ?_
    subst hf
    exact r_iret C hP hS dX10_heapCell_27
  · replace hf := it_f c1 hf
    refine lv_iload_n hx hb dX10_heapCell_9 rfl (lv_at hl 1 rfl) ?_
    refine lv_bipush (v := 8) hx hb dX10_heapCell_10 (by decide) ?_
    refine r_cSi (n := 2) (As := [.int a1, .int 8]) (rest := []) C (c_fX10_within hj σ H.size a1 8) gs_RX10_85 (by decide +kernel) ⟨rfl, rfl, by decide, by decide⟩ rfl rfl (Nat.le_of_ble_eq_true rfl) dX10_heapCell_12 hP hS hl.1 (fun H locs hP hS => ?_)
    refine lv_if_eq (tgt := 26) hx hb dX10_heapCell_15 (by decide) (fun c2 => ?_) (fun c2 => ?_)
    · replace hf := it_t c2 hf
      refine lv_iconst (v := (-1)) hx hb dX10_heapCell_26 (by decide) ?_
      subst hf
      exact r_iret C hP hS dX10_heapCell_27
    · replace hf := it_f c2 hf
      refine lv_iload_n hx hb dX10_heapCell_18 rfl (lv_at hl 2 rfl) ?_
      refine lv_iconst (v := 4) hx hb dX10_heapCell_19 (by decide) ?_
      refine r_cSi (n := 2) (As := [.int a2, .int 4]) (rest := []) C (c_fX10_within hj σ H.size a2 4) gs_RX10_85 (by decide +kernel) ⟨rfl, rfl, by decide, by decide⟩ rfl rfl (Nat.le_of_ble_eq_true rfl) dX10_heapCell_20 hP hS hl.1 (fun H locs hP hS => ?_)
      refine lv_if_ne (tgt := 28) hx hb dX10_heapCell_23 (by decide) (fun c3 => ?_) (fun c3 => ?_)
      · replace hf := it_f c3 hf
        refine lv_iload_n hx hb dX10_heapCell_28 rfl (lv_at hl 0 rfl) ?_
        refine lv_bipush (v := 8) hx hb dX10_heapCell_29 (by decide) ?_
        refine lv_imul hx hb dX10_heapCell_31 ?_
        refine lv_iload_n hx hb dX10_heapCell_32 rfl (lv_at hl 1 rfl) ?_
        refine lv_iadd hx hb dX10_heapCell_33 ?_
        refine lv_iconst (v := 4) hx hb dX10_heapCell_34 (by decide) ?_
        refine lv_imul hx hb dX10_heapCell_35 ?_
        refine lv_iload_n hx hb dX10_heapCell_36 rfl (lv_at hl 2 rfl) ?_
        refine lv_iadd hx hb dX10_heapCell_37 ?_
        subst hf
        exact r_iret C hP hS dX10_heapCell_38
      · replace hf := it_t c3 hf
        refine lv_iconst (v := (-1)) hx hb dX10_heapCell_26 (by decide) ?_
        subst hf
        exact r_iret C hP hS dX10_heapCell_27
def fX10_holdCell (a0 : Int32) (a1 : Int32) (a2 : Int32) : Int32 :=
(if (fX10_within a0 4) = 0 then
(-1)
else
(if (fX10_within a1 6) = 0 then
(-1)
else
(if (fX10_within a2 6) = 0 then
(-1)
else
((((a0 * 6) + a1) * 6) + a2))))
set_option maxHeartbeats 4000000 in
theorem c_fX10_holdCell {E : Ev} {l : Launch} (hj : jW true E) (σ : St) (sz : Nat) (a0 : Int32) (a1 : Int32) (a2 : Int32) : Met l yX10_holdCell (Cond.code yX10_holdCell cX10_holdCell 3 (some .int) :: gT) (rmD 2) (va_Pc [.int a0, .int a1, .int a2] (preW true E σ sz)) (QI true E (fX10_holdCell a0 a1 a2) σ sz) 0 0 (aW true E sz) := by
  refine r_entry (QI true E (fX10_holdCell a0 a1 a2) σ) hj (by decide) [.int a0, .int a1, .int a2] (Nat.le_of_ble_eq_true rfl) (fun p e s m args below meth c C => ?_)
  intro H locs ls hP hS hl
  have hl : lv_has ls 3 [(0, .int a0), (1, .int a1), (2, .int a2)] := hl
  obtain ⟨hx, hb, hr, hml, hown, hts, hlocks, hK, hX, hj⟩ := id C
  generalize hf : fX10_holdCell a0 a1 a2 = rr
  unfold fX10_holdCell at hf
  refine lv_iload_n hx hb dX10_holdCell_0 rfl (lv_at hl 0 rfl) ?_
  refine lv_iconst (v := 4) hx hb dX10_holdCell_1 (by decide) ?_
  refine r_cSi (n := 2) (As := [.int a0, .int 4]) (rest := []) C (c_fX10_within hj σ H.size a0 4) gs_RX10_85 (by decide +kernel) ⟨rfl, rfl, by decide, by decide⟩ rfl rfl (Nat.le_of_ble_eq_true rfl) dX10_holdCell_2 hP hS hl.1 (fun H locs hP hS => ?_)
  refine lv_if_eq (tgt := 26) hx hb dX10_holdCell_5 (by decide) (fun c1 => ?_) (fun c1 => ?_)
  · replace hf := it_t c1 hf
    refine lv_iconst (v := (-1)) hx hb dX10_holdCell_26 (by decide) ?_
    subst hf
    exact r_iret C hP hS dX10_holdCell_27
  · replace hf := it_f c1 hf
    refine lv_iload_n hx hb dX10_holdCell_8 rfl (lv_at hl 1 rfl) ?_
    refine lv_bipush (v := 6) hx hb dX10_holdCell_9 (by decide) ?_
    refine r_cSi (n := 2) (As := [.int a1, .int 6]) (rest := []) C (c_fX10_within hj σ H.size a1 6) gs_RX10_85 (by decide +kernel) ⟨rfl, rfl, by decide, by decide⟩ rfl rfl (Nat.le_of_ble_eq_true rfl) dX10_holdCell_11 hP hS hl.1 (fun H locs hP hS => ?_)
    refine lv_if_eq (tgt := 26) hx hb dX10_holdCell_14 (by decide) (fun c2 => ?_) (fun c2 => ?_)
    · replace hf := it_t c2 hf
      refine lv_iconst (v := (-1)) hx hb dX10_holdCell_26 (by decide) ?_
      subst hf
      exact r_iret C hP hS dX10_holdCell_27
    · replace hf := it_f c2 hf
      refine lv_iload_n hx hb dX10_holdCell_17 rfl (lv_at hl 2 rfl) ?_
      refine lv_bipush (v := 6) hx hb dX10_holdCell_18 (by decide) ?_
      refine r_cSi (n := 2) (As := [.int a2, .int 6]) (rest := []) C (c_fX10_within hj σ H.size a2 6) gs_RX10_85 (by decide +kernel) ⟨rfl, rfl, by decide, by decide⟩ rfl rfl (Nat.le_of_ble_eq_true rfl) dX10_holdCell_20 hP hS hl.1 (fun H locs hP hS => ?_)
      refine lv_if_ne (tgt := 28) hx hb dX10_holdCell_23 (by decide) (fun c3 => ?_) (fun c3 => ?_)
      · replace hf := it_f c3 hf
        refine lv_iload_n hx hb dX10_holdCell_28 rfl (lv_at hl 0 rfl) ?_
        refine lv_bipush (v := 6) hx hb dX10_holdCell_29 (by decide) ?_
        refine lv_imul hx hb dX10_holdCell_31 ?_
        refine lv_iload_n hx hb dX10_holdCell_32 rfl (lv_at hl 1 rfl) ?_
        refine lv_iadd hx hb dX10_holdCell_33 ?_
        refine lv_bipush (v := 6) hx hb dX10_holdCell_34 (by decide) ?_
        refine lv_imul hx hb dX10_holdCell_36 ?_
        refine lv_iload_n hx hb dX10_holdCell_37 rfl (lv_at hl 2 rfl) ?_
        refine lv_iadd hx hb dX10_holdCell_38 ?_
        subst hf
        exact r_iret C hP hS dX10_holdCell_39
      · replace hf := it_t c3 hf
        refine lv_iconst (v := (-1)) hx hb dX10_holdCell_26 (by decide) ?_
        subst hf
        exact r_iret C hP hS dX10_holdCell_27
def fX10_cellOf (a0 : Int32) (a1 : Int32) (a2 : Int32) (a3 : Int32) : Int32 :=
(if a0 = (-1) then
(fX10_heapCell a1 a2 a3)
else
(fX10_holdCell a0 a1 a3))
set_option maxHeartbeats 4000000 in
theorem c_fX10_cellOf {E : Ev} {l : Launch} (hj : jW true E) (σ : St) (sz : Nat) (a0 : Int32) (a1 : Int32) (a2 : Int32) (a3 : Int32) : Met l yX10_cellOf (Cond.code yX10_cellOf cX10_cellOf 4 (some .int) :: gT) (rmD 3) (va_Pc [.int a0, .int a1, .int a2, .int a3] (preW true E σ sz)) (QI true E (fX10_cellOf a0 a1 a2 a3) σ sz) 0 0 (aW true E sz) := by
  refine r_entry (QI true E (fX10_cellOf a0 a1 a2 a3) σ) hj (by decide) [.int a0, .int a1, .int a2, .int a3] (Nat.le_of_ble_eq_true rfl) (fun p e s m args below meth c C => ?_)
  intro H locs ls hP hS hl
  have hl : lv_has ls 4 [(0, .int a0), (1, .int a1), (2, .int a2), (3, .int a3)] := hl
  obtain ⟨hx, hb, hr, hml, hown, hts, hlocks, hK, hX, hj⟩ := id C
  generalize hf : fX10_cellOf a0 a1 a2 a3 = rr
  unfold fX10_cellOf at hf
  refine lv_iload_n hx hb dX10_cellOf_0 rfl (lv_at hl 0 rfl) ?_
  refine lv_iconst (v := (-1)) hx hb dX10_cellOf_1 (by decide) ?_
  refine lv_icmp_ne (tgt := 14) hx hb dX10_cellOf_2 (by decide) (fun c1 => ?_) (fun c1 => ?_)
  · replace hf := it_f c1 hf
    refine lv_iload_n hx hb dX10_cellOf_14 rfl (lv_at hl 0 rfl) ?_
    refine lv_iload_n hx hb dX10_cellOf_15 rfl (lv_at hl 1 rfl) ?_
    refine lv_iload_n hx hb dX10_cellOf_16 rfl (lv_at hl 3 rfl) ?_
    refine r_cSi (n := 3) (As := [.int a0, .int a1, .int a3]) (rest := []) C (c_fX10_holdCell hj σ H.size a0 a1 a3) gs_RX10_190 (by decide +kernel) ⟨rfl, rfl, by decide, by decide⟩ rfl rfl (Nat.le_of_ble_eq_true rfl) dX10_cellOf_17 hP hS hl.1 (fun H locs hP hS => ?_)
    subst hf
    exact r_iret C hP hS dX10_cellOf_20
  · replace hf := it_t c1 hf
    refine lv_iload_n hx hb dX10_cellOf_5 rfl (lv_at hl 1 rfl) ?_
    refine lv_iload_n hx hb dX10_cellOf_6 rfl (lv_at hl 2 rfl) ?_
    refine lv_iload_n hx hb dX10_cellOf_7 rfl (lv_at hl 3 rfl) ?_
    refine r_cSi (n := 3) (As := [.int a1, .int a2, .int a3]) (rest := []) C (c_fX10_heapCell hj σ H.size a1 a2 a3) gs_RX10_96 (by decide +kernel) ⟨rfl, rfl, by decide, by decide⟩ rfl rfl (Nat.le_of_ble_eq_true rfl) dX10_cellOf_8 hP hS hl.1 (fun H locs hP hS => ?_)
    refine lv_goto (tgt := 20) hx hb dX10_cellOf_11 (by decide) ?_
    subst hf
    exact r_iret C hP hS dX10_cellOf_20
def fX10_stacksOf (a0 : Int32) : Nat :=
(if a0 = (-1) then
5
else
(10 + 2))
set_option maxHeartbeats 4000000 in
theorem c_fX10_stacksOf {E : Ev} {l : Launch} (hj : jW true E) (σ : St) (sz : Nat) (a0 : Int32) : Met l yX10_stacksOf (Cond.code yX10_stacksOf cX10_stacksOf 2 (some (.object "SoupCargo$Stacks")) :: gT) (rmD 1) (va_Pc [.ref (ea E 0), .int a0] (preW true E σ sz)) (QR true E (fX10_stacksOf a0) σ sz) 0 0 (aW true E sz) := by
  refine r_entry (QR true E (fX10_stacksOf a0) σ) hj (by decide) [.ref (ea E 0), .int a0] (Nat.le_of_ble_eq_true rfl) (fun p e s m args below meth c C => ?_)
  intro H locs ls hP hS hl
  have hl : lv_has ls 2 [(0, .ref (ea E 0)), (1, .int a0)] := hl
  obtain ⟨hx, hb, hr, hml, hown, hts, hlocks, hK, hX, hj⟩ := id C
  generalize hf : fX10_stacksOf a0 = rr
  unfold fX10_stacksOf at hf
  refine lv_iload_n hx hb dX10_stacksOf_0 rfl (lv_at hl 1 rfl) ?_
  refine lv_iconst (v := (-1)) hx hb dX10_stacksOf_1 (by decide) ?_
  refine lv_icmp_ne (tgt := 12) hx hb dX10_stacksOf_2 (by decide) (fun c1 => ?_) (fun c1 => ?_)
  · replace hf := it_f c1 hf
    refine lv_aload_n hx hb dX10_stacksOf_12 rfl (lv_at hl 0 rfl) ?_
    refine r_get (k := 2) (v := .ref (ea E 10)) C hP oC_0 rfl iX10 (by decide) wm_81 rfl rfl dX10_stacksOf_13 ?_
    refine r_get (k := 0) (v := .ref (ea E (10 + 2))) C hP (oV fV_10) rfl iX5 (by decide) wm_98 rfl rfl dX10_stacksOf_16 ?_
    cases hf
    exact r_aret C hP hS dX10_stacksOf_19
  · replace hf := it_t c1 hf
    refine lv_aload_n hx hb dX10_stacksOf_5 rfl (lv_at hl 0 rfl) ?_
    refine r_get (k := 1) (v := .ref (ea E 5)) C hP oC_0 rfl iX10 (by decide) wm_99 rfl rfl dX10_stacksOf_6 ?_
    refine lv_goto (tgt := 19) hx hb dX10_stacksOf_9 (by decide) ?_
    cases hf
    exact r_aret C hP hS dX10_stacksOf_19
theorem h_fX10_stacksOf (a0 : Int32) : fS (fX10_stacksOf a0) := by
  unfold fX10_stacksOf
  split
  all_goals first | exact fS_5 | exact fS_12
def fX11_isIn (a0 : Int32) (a1 : Int32) (a2 : Int32) : Int32 :=
(if a0 < a1 then
0
else
(if a2 < a0 then
0
else
1))
set_option maxHeartbeats 4000000 in
theorem c_fX11_isIn {E : Ev} {l : Launch} (hj : jW false E) (σ : St) (sz : Nat) (a0 : Int32) (a1 : Int32) (a2 : Int32) : Met l yX11_isIn (Cond.code yX11_isIn cX11_isIn 4 (some .boolean) :: gT) (rmD 1) (va_Pc [.ref (ea E 0), .int a0, .int a1, .int a2] (preW false E σ sz)) (QI false E (fX11_isIn a0 a1 a2) σ sz) 0 0 (aW false E sz) := by
  refine r_entry (QI false E (fX11_isIn a0 a1 a2) σ) hj (by decide) [.ref (ea E 0), .int a0, .int a1, .int a2] (Nat.le_of_ble_eq_true rfl) (fun p e s m args below meth c C => ?_)
  intro H locs ls hP hS hl
  have hl : lv_has ls 4 [(0, .ref (ea E 0)), (1, .int a0), (2, .int a1), (3, .int a2)] := hl
  obtain ⟨hx, hb, hr, hml, hown, hts, hlocks, hK, hX, hj⟩ := id C
  generalize hf : fX11_isIn a0 a1 a2 = rr
  unfold fX11_isIn at hf
  refine lv_iload_n hx hb dX11_isIn_0 rfl (lv_at hl 1 rfl) ?_
  refine lv_iload_n hx hb dX11_isIn_1 rfl (lv_at hl 2 rfl) ?_
  refine lv_icmp_lt (tgt := 14) hx hb dX11_isIn_2 (by decide) (fun c1 => ?_) (fun c1 => ?_)
  · replace hf := it_t c1 hf
    refine lv_iconst (v := 0) hx hb dX11_isIn_14 (by decide) ?_
    subst hf
    exact r_zret C rfl hP hS dX11_isIn_15
  · replace hf := it_f c1 hf
    refine lv_iload_n hx hb dX11_isIn_5 rfl (lv_at hl 1 rfl) ?_
    refine lv_iload_n hx hb dX11_isIn_6 rfl (lv_at hl 3 rfl) ?_
    refine lv_icmp_gt (tgt := 14) hx hb dX11_isIn_7 (by decide) (fun c2 => ?_) (fun c2 => ?_)
    · replace hf := it_t c2 hf
      refine lv_iconst (v := 0) hx hb dX11_isIn_14 (by decide) ?_
      subst hf
      exact r_zret C rfl hP hS dX11_isIn_15
    · replace hf := it_f c2 hf
      refine lv_iconst (v := 1) hx hb dX11_isIn_10 (by decide) ?_
      refine lv_goto (tgt := 15) hx hb dX11_isIn_11 (by decide) ?_
      subst hf
      exact r_zret C rfl hP hS dX11_isIn_15
theorem z_fX11_isIn (a0 : Int32) (a1 : Int32) (a2 : Int32) : fX11_isIn a0 a1 a2 = 0 ∨ fX11_isIn a0 a1 a2 = 1 := by
  unfold fX11_isIn
  repeat' split
  all_goals first | exact Or.inl rfl | exact Or.inr rfl
def fX11_sort (σ : St) (a0 : Int32) : Option (Int32 × St) :=
(nmS (st_put σ 0 0 0) fun σ1 =>
(if (fX11_isIn a0 0 2) = 0 then
some (0, σ1)
else
(nmS (st_put σ1 0 2 a0) fun σ3 =>
some (1, σ3))))
set_option maxHeartbeats 4000000 in
theorem c_fX11_sort {E : Ev} {l : Launch} (hj : jW false E) (σ : St) (sz : Nat) (a0 : Int32) {rr : Int32} {sr : St} (hf : fX11_sort σ a0 = some (rr, sr)) : Met l yX11_sort (Cond.code yX11_sort cX11_sort 2 (some .boolean) :: gT) (rmD 2) (va_Pc [.ref (ea E 0), .int a0] (preW false E σ sz)) (QI false E rr sr sz) 0 0 (aW false E sz) := by
  refine r_entry (QI false E rr sr) hj (by decide) [.ref (ea E 0), .int a0] (Nat.le_of_ble_eq_true rfl) (fun p e s m args below meth c C => ?_)
  intro H locs ls hP hS hl
  have hl : lv_has ls 2 [(0, .ref (ea E 0)), (1, .int a0)] := hl
  obtain ⟨hx, hb, hr, hml, hown, hts, hlocks, hK, hX, hj⟩ := id C
  unfold fX11_sort at hf
  refine lv_aload_n hx hb dX11_sort_0 rfl (lv_at hl 0 rfl) ?_
  refine lv_iconst (v := 0) hx hb dX11_sort_1 (by decide) ?_
  refine r_put (k := 0) (x := 0) C hP hS tyX11 tyX11_ok nmX11 oM_0 rfl iX11 (by decide) wm_103 rfl rfl sM_0_0 rfl rfl (Nat.le_of_ble_eq_true rfl) dX11_sort_2 (fun H locs hP hS => ?_)
  obtain ⟨σ1, eσ1, hf⟩ := nmS_e hf
  rw [← eσ1] at hP
  refine lv_aload_n hx hb dX11_sort_5 rfl (lv_at hl 0 rfl) ?_
  refine lv_iload_n hx hb dX11_sort_6 rfl (lv_at hl 1 rfl) ?_
  refine lv_iconst (v := 0) hx hb dX11_sort_7 (by decide) ?_
  refine lv_iconst (v := 2) hx hb dX11_sort_8 (by decide) ?_
  refine r_cVi (n := 3) (As := [.int a0, .int 0, .int 2]) (rest := []) C (c_fX11_isIn hj σ1 H.size a0 0 2) oM_0 rfl gv_RX11_144 (by decide +kernel) ⟨rfl, rfl, by decide, by decide⟩ rfl rfl (Nat.le_of_ble_eq_true rfl) dX11_sort_9 hP hS hl.1 (fun H locs hP hS => ?_)
  refine lv_if_ne (tgt := 17) hx hb dX11_sort_12 (by decide) (fun c2 => ?_) (fun c2 => ?_)
  · replace hf := it_f c2 hf
    refine lv_aload_n hx hb dX11_sort_17 rfl (lv_at hl 0 rfl) ?_
    refine lv_iload_n hx hb dX11_sort_18 rfl (lv_at hl 1 rfl) ?_
    refine r_put (k := 2) (x := a0) C hP hS tyX11 tyX11_ok nmX11 oM_0 rfl iX11 (by decide) wm_109 rfl rfl sM_0_2 rfl rfl (Nat.le_of_ble_eq_true rfl) dX11_sort_19 (fun H locs hP hS => ?_)
    obtain ⟨σ3, eσ3, hf⟩ := nmS_e hf
    rw [← eσ3] at hP
    refine lv_iconst (v := 1) hx hb dX11_sort_22 (by decide) ?_
    cases hf
    exact r_zret C rfl hP hS dX11_sort_23
  · replace hf := it_t c2 hf
    refine lv_iconst (v := 0) hx hb dX11_sort_15 (by decide) ?_
    cases hf
    exact r_zret C rfl hP hS dX11_sort_16
def fX11_heapAt (a0 : Int32) (a1 : Int32) (a2 : Int32) : Int32 :=
(if (fX11_isIn a0 0 7) = 0 then
(-1)
else
(if (fX11_isIn a1 0 7) = 0 then
(-1)
else
(if (fX11_isIn a2 0 3) = 0 then
(-1)
else
(((64 * a2) + (8 * a1)) + a0))))
set_option maxHeartbeats 4000000 in
theorem c_fX11_heapAt {E : Ev} {l : Launch} (hj : jW false E) (σ : St) (sz : Nat) (a0 : Int32) (a1 : Int32) (a2 : Int32) : Met l yX11_heapAt (Cond.code yX11_heapAt cX11_heapAt 4 (some .int) :: gT) (rmD 2) (va_Pc [.ref (ea E 0), .int a0, .int a1, .int a2] (preW false E σ sz)) (QI false E (fX11_heapAt a0 a1 a2) σ sz) 0 0 (aW false E sz) := by
  refine r_entry (QI false E (fX11_heapAt a0 a1 a2) σ) hj (by decide) [.ref (ea E 0), .int a0, .int a1, .int a2] (Nat.le_of_ble_eq_true rfl) (fun p e s m args below meth c C => ?_)
  intro H locs ls hP hS hl
  have hl : lv_has ls 4 [(0, .ref (ea E 0)), (1, .int a0), (2, .int a1), (3, .int a2)] := hl
  obtain ⟨hx, hb, hr, hml, hown, hts, hlocks, hK, hX, hj⟩ := id C
  generalize hf : fX11_heapAt a0 a1 a2 = rr
  unfold fX11_heapAt at hf
  refine lv_aload_n hx hb dX11_heapAt_0 rfl (lv_at hl 0 rfl) ?_
  refine lv_iload_n hx hb dX11_heapAt_1 rfl (lv_at hl 1 rfl) ?_
  refine lv_iconst (v := 0) hx hb dX11_heapAt_2 (by decide) ?_
  refine lv_bipush (v := 7) hx hb dX11_heapAt_3 (by decide) ?_
  refine r_cVi (n := 3) (As := [.int a0, .int 0, .int 7]) (rest := []) C (c_fX11_isIn hj σ H.size a0 0 7) oM_0 rfl gv_RX11_144 (by decide +kernel) ⟨rfl, rfl, by decide, by decide⟩ rfl rfl (Nat.le_of_ble_eq_true rfl) dX11_heapAt_5 hP hS hl.1 (fun H locs hP hS => ?_)
  refine lv_if_eq (tgt := 46) hx hb dX11_heapAt_8 (by decide) (fun c1 => ?_) (fun c1 => ?_)
  · replace hf := it_t c1 hf
    refine lv_iconst (v := (-1)) hx hb dX11_heapAt_46 (by decide) ?_
    subst hf
    exact r_iret C hP hS dX11_heapAt_47
  · replace hf := it_f c1 hf
    refine lv_aload_n hx hb dX11_heapAt_11 rfl (lv_at hl 0 rfl) ?_
    refine lv_iload_n hx hb dX11_heapAt_12 rfl (lv_at hl 2 rfl) ?_
    refine lv_iconst (v := 0) hx hb dX11_heapAt_13 (by decide) ?_
    refine lv_bipush (v := 7) hx hb dX11_heapAt_14 (by decide) ?_
    refine r_cVi (n := 3) (As := [.int a1, .int 0, .int 7]) (rest := []) C (c_fX11_isIn hj σ H.size a1 0 7) oM_0 rfl gv_RX11_144 (by decide +kernel) ⟨rfl, rfl, by decide, by decide⟩ rfl rfl (Nat.le_of_ble_eq_true rfl) dX11_heapAt_16 hP hS hl.1 (fun H locs hP hS => ?_)
    refine lv_if_eq (tgt := 46) hx hb dX11_heapAt_19 (by decide) (fun c2 => ?_) (fun c2 => ?_)
    · replace hf := it_t c2 hf
      refine lv_iconst (v := (-1)) hx hb dX11_heapAt_46 (by decide) ?_
      subst hf
      exact r_iret C hP hS dX11_heapAt_47
    · replace hf := it_f c2 hf
      refine lv_aload_n hx hb dX11_heapAt_22 rfl (lv_at hl 0 rfl) ?_
      refine lv_iload_n hx hb dX11_heapAt_23 rfl (lv_at hl 3 rfl) ?_
      refine lv_iconst (v := 0) hx hb dX11_heapAt_24 (by decide) ?_
      refine lv_iconst (v := 3) hx hb dX11_heapAt_25 (by decide) ?_
      refine r_cVi (n := 3) (As := [.int a2, .int 0, .int 3]) (rest := []) C (c_fX11_isIn hj σ H.size a2 0 3) oM_0 rfl gv_RX11_144 (by decide +kernel) ⟨rfl, rfl, by decide, by decide⟩ rfl rfl (Nat.le_of_ble_eq_true rfl) dX11_heapAt_26 hP hS hl.1 (fun H locs hP hS => ?_)
      refine lv_if_eq (tgt := 46) hx hb dX11_heapAt_29 (by decide) (fun c3 => ?_) (fun c3 => ?_)
      · replace hf := it_t c3 hf
        refine lv_iconst (v := (-1)) hx hb dX11_heapAt_46 (by decide) ?_
        subst hf
        exact r_iret C hP hS dX11_heapAt_47
      · replace hf := it_f c3 hf
        refine lv_bipush (v := 64) hx hb dX11_heapAt_32 (by decide) ?_
        refine lv_iload_n hx hb dX11_heapAt_34 rfl (lv_at hl 3 rfl) ?_
        refine lv_imul hx hb dX11_heapAt_35 ?_
        refine lv_bipush (v := 8) hx hb dX11_heapAt_36 (by decide) ?_
        refine lv_iload_n hx hb dX11_heapAt_38 rfl (lv_at hl 2 rfl) ?_
        refine lv_imul hx hb dX11_heapAt_39 ?_
        refine lv_iadd hx hb dX11_heapAt_40 ?_
        refine lv_iload_n hx hb dX11_heapAt_41 rfl (lv_at hl 1 rfl) ?_
        refine lv_iadd hx hb dX11_heapAt_42 ?_
        refine lv_goto (tgt := 47) hx hb dX11_heapAt_43 (by decide) ?_
        subst hf
        exact r_iret C hP hS dX11_heapAt_47
def fX11_heap_104 (σ : St) (x4 : Int32) (x5 : Int32) (x6 : Int32) : Option (Int32 × St) :=
(wrK 256 σ 3 x6 x4 fun σ1 =>
(wrK 256 σ1 4 x6 x5 fun σ3 =>
some (1, σ3)))
set_option maxHeartbeats 4000000 in
theorem b_fX11_heap_104 {E : Ev} {l : Launch} {p : Program} {e : Env} {s : State} {m : MethodId} {args : Array Value} {below : List Frame} {meth : Method} {c : Code} (C : CX false E RX11 cX11_heap 7 (some .boolean) p s m args meth c) {rr : Int32} {sr : St} : ∀ (σ : St) (x4 : Int32) (x5 : Int32) (x6 : Int32), fX11_heap_104 σ x4 x5 x6 = some (rr, sr) → GW false l (rmD 3) E 7 p e s m args below meth c (MQ below (QI false E rr sr s.heap.size) args s 0 0 (aW false E s.heap.size)) σ 104 [(0, .ref (ea E 0)), (4, .int x4), (5, .int x5), (6, .int x6)] [] := by
  intro σ x4 x5 x6 hf H locs ls hP hS hl
  obtain ⟨hx, hb, hr, hml, hown, hts, hlocks, hK, hX, hj⟩ := id C
  unfold fX11_heap_104 at hf
  refine lv_aload_n hx hb dX11_heap_104 rfl (lv_at hl 0 rfl) ?_
  refine r_get (k := 5) (v := .ref (ea E 3)) C hP oM_0 rfl iX11 (by decide) wm_116 rfl rfl dX11_heap_105 ?_
  refine lv_iload hx hb dX11_heap_108 (lv_at hl 3 rfl) ?_
  refine lv_iload hx hb dX11_heap_110 (lv_at hl 1 rfl) ?_
  obtain ⟨h2, σ1, eσ1, hf⟩ := wrK_e hf
  refine r_ast C hP hS aM_3 h2 dX11_heap_112 (fun H locs hP hS => ?_)
  rw [← eσ1] at hP
  refine lv_aload_n hx hb dX11_heap_113 rfl (lv_at hl 0 rfl) ?_
  refine r_get (k := 6) (v := .ref (ea E 4)) C hP oM_0 rfl iX11 (by decide) wm_117 rfl rfl dX11_heap_114 ?_
  refine lv_iload hx hb dX11_heap_117 (lv_at hl 3 rfl) ?_
  refine lv_iload hx hb dX11_heap_119 (lv_at hl 2 rfl) ?_
  obtain ⟨h4, σ3, eσ3, hf⟩ := wrK_e hf
  refine r_ast C hP hS aM_4 h4 dX11_heap_121 (fun H locs hP hS => ?_)
  rw [← eσ3] at hP
  refine lv_iconst (v := 1) hx hb dX11_heap_122 (by decide) ?_
  cases hf
  exact r_zret C rfl hP hS dX11_heap_123
def fX11_heap_79 (σ : St) (x3 : Int32) (x4 : Int32) (x5 : Int32) (x6 : Int32) : Option (Int32 × St) :=
(if x4 = 0 then
(if 3 ≤ x3 then
fX11_heap_104 σ x4 x5 x6
else
(rdK 256 (σ 3) (x6 + 64) fun v3 =>
(if v3 ≤ 0 then
fX11_heap_104 σ x4 x5 x6
else
some (0, σ))))
else
fX11_heap_104 σ x4 x5 x6)
set_option maxHeartbeats 4000000 in
theorem b_fX11_heap_79 {E : Ev} {l : Launch} {p : Program} {e : Env} {s : State} {m : MethodId} {args : Array Value} {below : List Frame} {meth : Method} {c : Code} (C : CX false E RX11 cX11_heap 7 (some .boolean) p s m args meth c) {rr : Int32} {sr : St} : ∀ (σ : St) (x3 : Int32) (x4 : Int32) (x5 : Int32) (x6 : Int32), fX11_heap_79 σ x3 x4 x5 x6 = some (rr, sr) → GW false l (rmD 3) E 7 p e s m args below meth c (MQ below (QI false E rr sr s.heap.size) args s 0 0 (aW false E s.heap.size)) σ 79 [(0, .ref (ea E 0)), (3, .int x3), (4, .int x4), (5, .int x5), (6, .int x6)] [] := by
  intro σ x3 x4 x5 x6 hf H locs ls hP hS hl
  obtain ⟨hx, hb, hr, hml, hown, hts, hlocks, hK, hX, hj⟩ := id C
  unfold fX11_heap_79 at hf
  refine lv_iload hx hb dX11_heap_79 (lv_at hl 2 rfl) ?_
  refine lv_if_ne (tgt := 104) hx hb dX11_heap_81 (by decide) (fun c1 => ?_) (fun c1 => ?_)
  · replace hf := it_f c1 hf
    exact b_fX11_heap_104 C σ x4 x5 x6 hf H locs ls hP hS (lv_sub hl [0, 2, 3, 4] rfl)
  · replace hf := it_t c1 hf
    refine lv_iload_n hx hb dX11_heap_84 rfl (lv_at hl 1 rfl) ?_
    refine lv_iconst (v := 3) hx hb dX11_heap_85 (by decide) ?_
    refine lv_icmp_ge (tgt := 104) hx hb dX11_heap_86 (by decide) (fun c2 => ?_) (fun c2 => ?_)
    · replace hf := it_t c2 hf
      exact b_fX11_heap_104 C σ x4 x5 x6 hf H locs ls hP hS (lv_sub hl [0, 2, 3, 4] rfl)
    · replace hf := it_f c2 hf
      refine lv_aload_n hx hb dX11_heap_89 rfl (lv_at hl 0 rfl) ?_
      refine r_get (k := 5) (v := .ref (ea E 3)) C hP oM_0 rfl iX11 (by decide) wm_116 rfl rfl dX11_heap_90 ?_
      refine lv_iload hx hb dX11_heap_93 (lv_at hl 4 rfl) ?_
      refine lv_bipush (v := 64) hx hb dX11_heap_95 (by decide) ?_
      refine lv_iadd hx hb dX11_heap_97 ?_
      have h4 := (rdK_e hf).1
      refine r_ald C hP aM_3 h4 dX11_heap_98 ?_
      refine lv_topi (fun v3 ev3 => ?_)
      replace hf := rdK_n ev3 hf
      refine lv_if_le (tgt := 104) hx hb dX11_heap_99 (by decide) (fun c5 => ?_) (fun c5 => ?_)
      · replace hf := it_t c5 hf
        exact b_fX11_heap_104 C σ x4 x5 x6 hf H locs ls hP hS (lv_sub hl [0, 2, 3, 4] rfl)
      · replace hf := it_f c5 hf
        refine lv_iconst (v := 0) hx hb dX11_heap_102 (by decide) ?_
        cases hf
        exact r_zret C rfl hP hS dX11_heap_103
def fX11_heap_57 (σ : St) (x3 : Int32) (x4 : Int32) (x5 : Int32) (x6 : Int32) : Option (Int32 × St) :=
(if x4 ≤ 0 then
fX11_heap_79 σ x3 x4 x5 x6
else
(if x3 ≤ 0 then
fX11_heap_79 σ x3 x4 x5 x6
else
(rdK 256 (σ 3) (x6 - 64) fun v3 =>
(if v3 = 0 then
some (0, σ)
else
fX11_heap_79 σ x3 x4 x5 x6))))
set_option maxHeartbeats 4000000 in
theorem b_fX11_heap_57 {E : Ev} {l : Launch} {p : Program} {e : Env} {s : State} {m : MethodId} {args : Array Value} {below : List Frame} {meth : Method} {c : Code} (C : CX false E RX11 cX11_heap 7 (some .boolean) p s m args meth c) {rr : Int32} {sr : St} : ∀ (σ : St) (x3 : Int32) (x4 : Int32) (x5 : Int32) (x6 : Int32), fX11_heap_57 σ x3 x4 x5 x6 = some (rr, sr) → GW false l (rmD 3) E 7 p e s m args below meth c (MQ below (QI false E rr sr s.heap.size) args s 0 0 (aW false E s.heap.size)) σ 57 [(0, .ref (ea E 0)), (3, .int x3), (4, .int x4), (5, .int x5), (6, .int x6)] [] := by
  intro σ x3 x4 x5 x6 hf H locs ls hP hS hl
  obtain ⟨hx, hb, hr, hml, hown, hts, hlocks, hK, hX, hj⟩ := id C
  unfold fX11_heap_57 at hf
  refine lv_iload hx hb dX11_heap_57 (lv_at hl 2 rfl) ?_
  refine lv_if_le (tgt := 79) hx hb dX11_heap_59 (by decide) (fun c1 => ?_) (fun c1 => ?_)
  · replace hf := it_t c1 hf
    exact b_fX11_heap_79 C σ x3 x4 x5 x6 hf H locs ls hP hS (lv_sub hl [0, 1, 2, 3, 4] rfl)
  · replace hf := it_f c1 hf
    refine lv_iload_n hx hb dX11_heap_62 rfl (lv_at hl 1 rfl) ?_
    refine lv_if_le (tgt := 79) hx hb dX11_heap_63 (by decide) (fun c2 => ?_) (fun c2 => ?_)
    · replace hf := it_t c2 hf
      exact b_fX11_heap_79 C σ x3 x4 x5 x6 hf H locs ls hP hS (lv_sub hl [0, 1, 2, 3, 4] rfl)
    · replace hf := it_f c2 hf
      refine lv_aload_n hx hb dX11_heap_66 rfl (lv_at hl 0 rfl) ?_
      refine r_get (k := 5) (v := .ref (ea E 3)) C hP oM_0 rfl iX11 (by decide) wm_116 rfl rfl dX11_heap_67 ?_
      refine lv_iload hx hb dX11_heap_70 (lv_at hl 4 rfl) ?_
      refine lv_bipush (v := 64) hx hb dX11_heap_72 (by decide) ?_
      refine lv_isub hx hb dX11_heap_74 ?_
      have h4 := (rdK_e hf).1
      refine r_ald C hP aM_3 h4 dX11_heap_75 ?_
      refine lv_topi (fun v3 ev3 => ?_)
      replace hf := rdK_n ev3 hf
      refine lv_if_eq (tgt := 102) hx hb dX11_heap_76 (by decide) (fun c5 => ?_) (fun c5 => ?_)
      · replace hf := it_t c5 hf
        refine lv_iconst (v := 0) hx hb dX11_heap_102 (by decide) ?_
        cases hf
        exact r_zret C rfl hP hS dX11_heap_103
      · replace hf := it_f c5 hf
        exact b_fX11_heap_79 C σ x3 x4 x5 x6 hf H locs ls hP hS (lv_sub hl [0, 1, 2, 3, 4] rfl)
def fX11_heap (σ : St) (a0 : Int32) (a1 : Int32) (a2 : Int32) (a3 : Int32) (a4 : Int32) : Option (Int32 × St) :=
(nmS (st_put σ 0 0 0) fun σ1 =>
(if (fX11_heapAt a0 a1 a2) = (-1) then
some (0, σ1)
else
(if (fX11_isIn a3 0 99) = 0 then
some (0, σ1)
else
(if (fX11_isIn a4 0 9999) = 0 then
some (0, σ1)
else
(if a3 = 0 then
(if a4 ≤ 0 then
fX11_heap_57 σ1 a2 a3 a4 (fX11_heapAt a0 a1 a2)
else
some (0, σ1))
else
fX11_heap_57 σ1 a2 a3 a4 (fX11_heapAt a0 a1 a2))))))
set_option maxHeartbeats 4000000 in
theorem c_fX11_heap {E : Ev} {l : Launch} (hj : jW false E) (σ : St) (sz : Nat) (a0 : Int32) (a1 : Int32) (a2 : Int32) (a3 : Int32) (a4 : Int32) {rr : Int32} {sr : St} (hf : fX11_heap σ a0 a1 a2 a3 a4 = some (rr, sr)) : Met l yX11_heap (Cond.code yX11_heap cX11_heap 7 (some .boolean) :: gT) (rmD 3) (va_Pc [.ref (ea E 0), .int a0, .int a1, .int a2, .int a3, .int a4] (preW false E σ sz)) (QI false E rr sr sz) 0 0 (aW false E sz) := by
  refine r_entry (QI false E rr sr) hj (by decide) [.ref (ea E 0), .int a0, .int a1, .int a2, .int a3, .int a4] (Nat.le_of_ble_eq_true rfl) (fun p e s m args below meth c C => ?_)
  intro H locs ls hP hS hl
  have hl : lv_has ls 7 [(0, .ref (ea E 0)), (1, .int a0), (2, .int a1), (3, .int a2), (4, .int a3), (5, .int a4)] := hl
  obtain ⟨hx, hb, hr, hml, hown, hts, hlocks, hK, hX, hj⟩ := id C
  unfold fX11_heap at hf
  refine lv_aload_n hx hb dX11_heap_0 rfl (lv_at hl 0 rfl) ?_
  refine lv_iconst (v := 0) hx hb dX11_heap_1 (by decide) ?_
  refine r_put (k := 0) (x := 0) C hP hS tyX11 tyX11_ok nmX11 oM_0 rfl iX11 (by decide) wm_103 rfl rfl sM_0_0 rfl rfl (Nat.le_of_ble_eq_true rfl) dX11_heap_2 (fun H locs hP hS => ?_)
  obtain ⟨σ1, eσ1, hf⟩ := nmS_e hf
  rw [← eσ1] at hP
  refine lv_aload_n hx hb dX11_heap_5 rfl (lv_at hl 0 rfl) ?_
  refine lv_iload_n hx hb dX11_heap_6 rfl (lv_at hl 1 rfl) ?_
  refine lv_iload_n hx hb dX11_heap_7 rfl (lv_at hl 2 rfl) ?_
  refine lv_iload_n hx hb dX11_heap_8 rfl (lv_at hl 3 rfl) ?_
  refine r_cVi (n := 3) (As := [.int a0, .int a1, .int a2]) (rest := []) C (c_fX11_heapAt hj σ1 H.size a0 a1 a2) oM_0 rfl gv_RX11_151 (by decide +kernel) ⟨rfl, rfl, by decide, by decide⟩ rfl rfl (Nat.le_of_ble_eq_true rfl) dX11_heap_9 hP hS hl.1 (fun H locs hP hS => ?_)
  refine lv_istore (lv' := [(6, .int (fX11_heapAt a0 a1 a2)), (0, .ref (ea E 0)), (1, .int a0), (2, .int a1), (3, .int a2), (4, .int a3), (5, .int a4)]) hx hb dX11_heap_12 hl (by decide) rfl (fun ls hl => ?_)
  refine lv_iload hx hb dX11_heap_14 (lv_at hl 0 rfl) ?_
  refine lv_iconst (v := (-1)) hx hb dX11_heap_16 (by decide) ?_
  refine lv_icmp_eq (tgt := 55) hx hb dX11_heap_17 (by decide) (fun c2 => ?_) (fun c2 => ?_)
  · replace hf := it_t c2 hf
    refine lv_iconst (v := 0) hx hb dX11_heap_55 (by decide) ?_
    cases hf
    exact r_zret C rfl hP hS dX11_heap_56
  · replace hf := it_f c2 hf
    refine lv_aload_n hx hb dX11_heap_20 rfl (lv_at hl 1 rfl) ?_
    refine lv_iload hx hb dX11_heap_21 (lv_at hl 5 rfl) ?_
    refine lv_iconst (v := 0) hx hb dX11_heap_23 (by decide) ?_
    refine lv_bipush (v := 99) hx hb dX11_heap_24 (by decide) ?_
    refine r_cVi (n := 3) (As := [.int a3, .int 0, .int 99]) (rest := []) C (c_fX11_isIn hj σ1 H.size a3 0 99) oM_0 rfl gv_RX11_144 (by decide +kernel) ⟨rfl, rfl, by decide, by decide⟩ rfl rfl (Nat.le_of_ble_eq_true rfl) dX11_heap_26 hP hS hl.1 (fun H locs hP hS => ?_)
    refine lv_if_eq (tgt := 55) hx hb dX11_heap_29 (by decide) (fun c3 => ?_) (fun c3 => ?_)
    · replace hf := it_t c3 hf
      refine lv_iconst (v := 0) hx hb dX11_heap_55 (by decide) ?_
      cases hf
      exact r_zret C rfl hP hS dX11_heap_56
    · replace hf := it_f c3 hf
      refine lv_aload_n hx hb dX11_heap_32 rfl (lv_at hl 1 rfl) ?_
      refine lv_iload hx hb dX11_heap_33 (lv_at hl 6 rfl) ?_
      refine lv_iconst (v := 0) hx hb dX11_heap_35 (by decide) ?_
      refine lv_sipush (v := 9999) hx hb dX11_heap_36 (by decide) ?_
      refine r_cVi (n := 3) (As := [.int a4, .int 0, .int 9999]) (rest := []) C (c_fX11_isIn hj σ1 H.size a4 0 9999) oM_0 rfl gv_RX11_144 (by decide +kernel) ⟨rfl, rfl, by decide, by decide⟩ rfl rfl (Nat.le_of_ble_eq_true rfl) dX11_heap_39 hP hS hl.1 (fun H locs hP hS => ?_)
      refine lv_if_eq (tgt := 55) hx hb dX11_heap_42 (by decide) (fun c4 => ?_) (fun c4 => ?_)
      · replace hf := it_t c4 hf
        refine lv_iconst (v := 0) hx hb dX11_heap_55 (by decide) ?_
        cases hf
        exact r_zret C rfl hP hS dX11_heap_56
      · replace hf := it_f c4 hf
        refine lv_iload hx hb dX11_heap_45 (lv_at hl 5 rfl) ?_
        refine lv_if_ne (tgt := 57) hx hb dX11_heap_47 (by decide) (fun c5 => ?_) (fun c5 => ?_)
        · replace hf := it_f c5 hf
          exact b_fX11_heap_57 C σ1 a2 a3 a4 (fX11_heapAt a0 a1 a2) hf H locs ls hP hS (lv_sub hl [1, 4, 5, 6, 0] rfl)
        · replace hf := it_t c5 hf
          refine lv_iload hx hb dX11_heap_50 (lv_at hl 6 rfl) ?_
          refine lv_if_le (tgt := 57) hx hb dX11_heap_52 (by decide) (fun c6 => ?_) (fun c6 => ?_)
          · replace hf := it_t c6 hf
            exact b_fX11_heap_57 C σ1 a2 a3 a4 (fX11_heapAt a0 a1 a2) hf H locs ls hP hS (lv_sub hl [1, 4, 5, 6, 0] rfl)
          · replace hf := it_f c6 hf
            refine lv_iconst (v := 0) hx hb dX11_heap_55 (by decide) ?_
            cases hf
            exact r_zret C rfl hP hS dX11_heap_56
def fX11_heapHeight_2B (σ : St) (rec2 : Int32 → Int32 → Option Int32) (x1 : Int32) (x2 : Int32) : Option Int32 :=
(if 4 ≤ x2 then
some x2
else
(rdK 256 (σ 3) ((64 * x2) + x1) fun v2 =>
(if v2 ≤ 0 then
some x2
else
rec2 x1 (x2 + 1))))
set_option maxHeartbeats 4000000 in
theorem b_fX11_heapHeight_2B {E : Ev} {l : Launch} {p : Program} {e : Env} {s : State} {m : MethodId} {args : Array Value} {below : List Frame} {meth : Method} {c : Code} (σ : St) (C : CX false E RX11 cX11_heapHeight 3 (some .int) p s m args meth c) {rr : Int32} (rec2 : Int32 → Int32 → Option Int32) (hr2 : ∀  (x1 : Int32) (x2 : Int32), rec2 x1 x2 = some rr → GW false l (rmD 1) E 3 p e s m args below meth c (MQ below (QI false E rr σ s.heap.size) args s 0 0 (aW false E s.heap.size)) σ 2 [(0, .ref (ea E 0)), (1, .int x1), (2, .int x2)] []) : ∀  (x1 : Int32) (x2 : Int32), fX11_heapHeight_2B σ rec2 x1 x2 = some rr → GW false l (rmD 1) E 3 p e s m args below meth c (MQ below (QI false E rr σ s.heap.size) args s 0 0 (aW false E s.heap.size)) σ 2 [(0, .ref (ea E 0)), (1, .int x1), (2, .int x2)] [] := by
  intro x1 x2 hf H locs ls hP hS hl
  obtain ⟨hx, hb, hr, hml, hown, hts, hlocks, hK, hX, hj⟩ := id C
  unfold fX11_heapHeight_2B at hf
  refine lv_iload_n hx hb dX11_heapHeight_2 rfl (lv_at hl 2 rfl) ?_
  refine lv_iconst (v := 4) hx hb dX11_heapHeight_3 (by decide) ?_
  refine lv_icmp_ge (tgt := 28) hx hb dX11_heapHeight_4 (by decide) (fun c1 => ?_) (fun c1 => ?_)
  · replace hf := it_t c1 hf
    refine lv_iload_n hx hb dX11_heapHeight_28 rfl (lv_at hl 2 rfl) ?_
    cases hf
    exact r_iret C hP hS dX11_heapHeight_29
  · replace hf := it_f c1 hf
    refine lv_aload_n hx hb dX11_heapHeight_7 rfl (lv_at hl 0 rfl) ?_
    refine r_get (k := 5) (v := .ref (ea E 3)) C hP oM_0 rfl iX11 (by decide) wm_116 rfl rfl dX11_heapHeight_8 ?_
    refine lv_bipush (v := 64) hx hb dX11_heapHeight_11 (by decide) ?_
    refine lv_iload_n hx hb dX11_heapHeight_13 rfl (lv_at hl 2 rfl) ?_
    refine lv_imul hx hb dX11_heapHeight_14 ?_
    refine lv_iload_n hx hb dX11_heapHeight_15 rfl (lv_at hl 1 rfl) ?_
    refine lv_iadd hx hb dX11_heapHeight_16 ?_
    have h3 := (rdK_e hf).1
    refine r_ald C hP aM_3 h3 dX11_heapHeight_17 ?_
    refine lv_topi (fun v2 ev2 => ?_)
    replace hf := rdK_n ev2 hf
    refine lv_if_le (tgt := 28) hx hb dX11_heapHeight_18 (by decide) (fun c4 => ?_) (fun c4 => ?_)
    · replace hf := it_t c4 hf
      refine lv_iload_n hx hb dX11_heapHeight_28 rfl (lv_at hl 2 rfl) ?_
      cases hf
      exact r_iret C hP hS dX11_heapHeight_29
    · replace hf := it_f c4 hf
      refine lv_iload_n hx hb dX11_heapHeight_21 rfl (lv_at hl 2 rfl) ?_
      refine lv_iconst (v := 1) hx hb dX11_heapHeight_22 (by decide) ?_
      refine lv_iadd hx hb dX11_heapHeight_23 ?_
      refine lv_istore_n (lv' := [(2, .int (x2 + 1)), (0, .ref (ea E 0)), (1, .int x1)]) hx hb dX11_heapHeight_24 rfl hl (by decide) rfl (fun ls hl => ?_)
      refine lv_goto (tgt := 2) hx hb dX11_heapHeight_25 (by decide) ?_
      exact hr2 x1 (x2 + 1) hf H locs ls hP hS (lv_sub hl [1, 2, 0] rfl)
def fX11_heapHeight_2 (σ : St) : Nat → Int32 → Int32 → Option Int32
  | 0 => fun _ _ => none
  | n + 1 => fun x1 x2 => fX11_heapHeight_2B σ (fX11_heapHeight_2 σ n) x1 x2
theorem b_fX11_heapHeight_2 {E : Ev} {l : Launch} {p : Program} {e : Env} {s : State} {m : MethodId} {args : Array Value} {below : List Frame} {meth : Method} {c : Code} (σ : St) (C : CX false E RX11 cX11_heapHeight 3 (some .int) p s m args meth c) {rr : Int32} : ∀ (n : Nat) (x1 : Int32) (x2 : Int32), fX11_heapHeight_2 σ n x1 x2 = some rr → GW false l (rmD 1) E 3 p e s m args below meth c (MQ below (QI false E rr σ s.heap.size) args s 0 0 (aW false E s.heap.size)) σ 2 [(0, .ref (ea E 0)), (1, .int x1), (2, .int x2)] [] := by
  intro n
  induction n with
  | zero => intro x1 x2 hf; have hf : (none : Option _) = some _ := hf; cases hf
  | succ n ih => intro x1 x2 hf; exact b_fX11_heapHeight_2B σ C (fX11_heapHeight_2 σ n) ih x1 x2 hf
def fX11_heapHeight (σ : St) (a0 : Int32) : Option Int32 :=
fX11_heapHeight_2 σ FU a0 0
set_option maxHeartbeats 4000000 in
theorem c_fX11_heapHeight {E : Ev} {l : Launch} (hj : jW false E) (σ : St) (sz : Nat) (a0 : Int32) {rr : Int32} (hf : fX11_heapHeight σ a0 = some rr) : Met l yX11_heapHeight (Cond.code yX11_heapHeight cX11_heapHeight 3 (some .int) :: gT) (rmD 1) (va_Pc [.ref (ea E 0), .int a0] (preW false E σ sz)) (QI false E rr σ sz) 0 0 (aW false E sz) := by
  refine r_entry (QI false E rr σ) hj (by decide) [.ref (ea E 0), .int a0] (Nat.le_of_ble_eq_true rfl) (fun p e s m args below meth c C => ?_)
  intro H locs ls hP hS hl
  have hl : lv_has ls 3 [(0, .ref (ea E 0)), (1, .int a0)] := hl
  obtain ⟨hx, hb, hr, hml, hown, hts, hlocks, hK, hX, hj⟩ := id C
  unfold fX11_heapHeight at hf
  refine lv_iconst (v := 0) hx hb dX11_heapHeight_0 (by decide) ?_
  refine lv_istore_n (lv' := [(2, .int 0), (0, .ref (ea E 0)), (1, .int a0)]) hx hb dX11_heapHeight_1 rfl hl (by decide) rfl (fun ls hl => ?_)
  exact b_fX11_heapHeight_2 σ C FU a0 0 hf H locs ls hP hS (lv_sub hl [1, 2, 0] rfl)
def fX7_tell (σ : St) (a0 : Int32) (a1 : Int32) (a2 : Int32) : Option (Int32 × St) :=
(if (fX10_within a0 30) = 0 then
some (0, σ)
else
(if (fX10_within a1 10) = 0 then
some (0, σ)
else
(if (fX10_within a2 10) = 0 then
some (0, σ)
else
(wrK 30 σ 3 a0 a1 fun σ4 =>
(wrK 30 σ4 4 a0 a2 fun σ6 =>
some (1, σ6))))))
set_option maxHeartbeats 4000000 in
theorem c_fX7_tell {E : Ev} {l : Launch} (hj : jW true E) (σ : St) (sz : Nat) (a0 : Int32) (a1 : Int32) (a2 : Int32) {rr : Int32} {sr : St} (hf : fX7_tell σ a0 a1 a2 = some (rr, sr)) : Met l yX7_tell (Cond.code yX7_tell cX7_tell 4 (some .boolean) :: gT) (rmD 2) (va_Pc [.ref (ea E 2), .int a0, .int a1, .int a2] (preW true E σ sz)) (QI true E rr sr sz) 0 0 (aW true E sz) := by
  refine r_entry (QI true E rr sr) hj (by decide) [.ref (ea E 2), .int a0, .int a1, .int a2] (Nat.le_of_ble_eq_true rfl) (fun p e s m args below meth c C => ?_)
  intro H locs ls hP hS hl
  have hl : lv_has ls 4 [(0, .ref (ea E 2)), (1, .int a0), (2, .int a1), (3, .int a2)] := hl
  obtain ⟨hx, hb, hr, hml, hown, hts, hlocks, hK, hX, hj⟩ := id C
  unfold fX7_tell at hf
  refine lv_iload_n hx hb dX7_tell_0 rfl (lv_at hl 1 rfl) ?_
  refine lv_bipush (v := 30) hx hb dX7_tell_1 (by decide) ?_
  refine r_cNi (n := 2) (As := [.int a0, .int 30]) (rest := []) (host := "SoupCargo") C (c_fX10_within hj σ H.size a0 30) (by decide +kernel) wm_91 wm_90 wm_89 (by decide +kernel) ⟨rfl, rfl, by decide, by decide⟩ rfl rfl (Nat.le_of_ble_eq_true rfl) dX7_tell_3 hP hS hl.1 (fun H locs hP hS => ?_)
  refine lv_if_eq (tgt := 27) hx hb dX7_tell_6 (by decide) (fun c1 => ?_) (fun c1 => ?_)
  · replace hf := it_t c1 hf
    refine lv_iconst (v := 0) hx hb dX7_tell_27 (by decide) ?_
    cases hf
    exact r_zret C rfl hP hS dX7_tell_28
  · replace hf := it_f c1 hf
    refine lv_iload_n hx hb dX7_tell_9 rfl (lv_at hl 2 rfl) ?_
    refine lv_bipush (v := 10) hx hb dX7_tell_10 (by decide) ?_
    refine r_cNi (n := 2) (As := [.int a1, .int 10]) (rest := []) (host := "SoupCargo") C (c_fX10_within hj σ H.size a1 10) (by decide +kernel) wm_91 wm_90 wm_89 (by decide +kernel) ⟨rfl, rfl, by decide, by decide⟩ rfl rfl (Nat.le_of_ble_eq_true rfl) dX7_tell_12 hP hS hl.1 (fun H locs hP hS => ?_)
    refine lv_if_eq (tgt := 27) hx hb dX7_tell_15 (by decide) (fun c2 => ?_) (fun c2 => ?_)
    · replace hf := it_t c2 hf
      refine lv_iconst (v := 0) hx hb dX7_tell_27 (by decide) ?_
      cases hf
      exact r_zret C rfl hP hS dX7_tell_28
    · replace hf := it_f c2 hf
      refine lv_iload_n hx hb dX7_tell_18 rfl (lv_at hl 3 rfl) ?_
      refine lv_bipush (v := 10) hx hb dX7_tell_19 (by decide) ?_
      refine r_cNi (n := 2) (As := [.int a2, .int 10]) (rest := []) (host := "SoupCargo") C (c_fX10_within hj σ H.size a2 10) (by decide +kernel) wm_91 wm_90 wm_89 (by decide +kernel) ⟨rfl, rfl, by decide, by decide⟩ rfl rfl (Nat.le_of_ble_eq_true rfl) dX7_tell_21 hP hS hl.1 (fun H locs hP hS => ?_)
      refine lv_if_ne (tgt := 29) hx hb dX7_tell_24 (by decide) (fun c3 => ?_) (fun c3 => ?_)
      · replace hf := it_f c3 hf
        refine lv_aload_n hx hb dX7_tell_29 rfl (lv_at hl 0 rfl) ?_
        refine r_get (k := 0) (v := .ref (ea E 3)) C hP oC_2 rfl iX7 (by decide) wm_491 rfl rfl dX7_tell_30 ?_
        refine lv_iload_n hx hb dX7_tell_33 rfl (lv_at hl 1 rfl) ?_
        refine lv_iload_n hx hb dX7_tell_34 rfl (lv_at hl 2 rfl) ?_
        obtain ⟨h5, σ4, eσ4, hf⟩ := wrK_e hf
        refine r_ast C hP hS aC_3 h5 dX7_tell_35 (fun H locs hP hS => ?_)
        rw [← eσ4] at hP
        refine lv_aload_n hx hb dX7_tell_36 rfl (lv_at hl 0 rfl) ?_
        refine r_get (k := 1) (v := .ref (ea E 4)) C hP oC_2 rfl iX7 (by decide) wm_492 rfl rfl dX7_tell_37 ?_
        refine lv_iload_n hx hb dX7_tell_40 rfl (lv_at hl 1 rfl) ?_
        refine lv_iload_n hx hb dX7_tell_41 rfl (lv_at hl 3 rfl) ?_
        obtain ⟨h7, σ6, eσ6, hf⟩ := wrK_e hf
        refine r_ast C hP hS aC_4 h7 dX7_tell_42 (fun H locs hP hS => ?_)
        rw [← eσ6] at hP
        refine lv_iconst (v := 1) hx hb dX7_tell_43 (by decide) ?_
        cases hf
        exact r_zret C rfl hP hS dX7_tell_44
      · replace hf := it_t c3 hf
        refine lv_iconst (v := 0) hx hb dX7_tell_27 (by decide) ?_
        cases hf
        exact r_zret C rfl hP hS dX7_tell_28
def fX8_height_20B (b : Nat) (σ : St) (rec20 : Int32 → Int32 → Option Int32) (x1 : Int32) (x2 : Int32) : Option Int32 :=
(if x2 < 0 then
some 0
else
(rdK (stN b) (σ (b + 1)) ((x1 * (σ b 1)) + x2) fun v2 =>
(if v2 ≤ 0 then
rec20 x1 (x2 + (-1))
else
some (x2 + 1))))
set_option maxHeartbeats 4000000 in
theorem b_fX8_height_20B {E : Ev} {l : Launch} {p : Program} {e : Env} {s : State} {m : MethodId} {args : Array Value} {below : List Frame} {meth : Method} {c : Code} {b : Nat} (hfb : fS b) (σ : St) (C : CX true E RX8 cX8_height 3 (some .int) p s m args meth c) {rr : Int32} (rec20 : Int32 → Int32 → Option Int32) (hr20 : ∀  (x1 : Int32) (x2 : Int32), rec20 x1 x2 = some rr → GW true l (rmD 2) E 3 p e s m args below meth c (MQ below (QI true E rr σ s.heap.size) args s 0 0 (aW true E s.heap.size)) σ 20 [(0, .ref (ea E b)), (1, .int x1), (2, .int x2)] []) : ∀  (x1 : Int32) (x2 : Int32), fX8_height_20B b σ rec20 x1 x2 = some rr → GW true l (rmD 2) E 3 p e s m args below meth c (MQ below (QI true E rr σ s.heap.size) args s 0 0 (aW true E s.heap.size)) σ 20 [(0, .ref (ea E b)), (1, .int x1), (2, .int x2)] [] := by
  intro x1 x2 hf H locs ls hP hS hl
  obtain ⟨hx, hb, hr, hml, hown, hts, hlocks, hK, hX, hj⟩ := id C
  unfold fX8_height_20B at hf
  refine lv_iload_n hx hb dX8_height_20 rfl (lv_at hl 2 rfl) ?_
  refine lv_if_lt (tgt := 50) hx hb dX8_height_21 (by decide) (fun c1 => ?_) (fun c1 => ?_)
  · replace hf := it_t c1 hf
    refine lv_iconst (v := 0) hx hb dX8_height_50 (by decide) ?_
    cases hf
    exact r_iret C hP hS dX8_height_51
  · replace hf := it_f c1 hf
    refine lv_aload_n hx hb dX8_height_24 rfl (lv_at hl 0 rfl) ?_
    refine r_get (k := 3) (v := .ref (ea E (b + 1))) C hP (oS hfb) rfl iX8 (by decide) wm_49 rfl rfl dX8_height_25 ?_
    refine lv_iload_n hx hb dX8_height_28 rfl (lv_at hl 1 rfl) ?_
    refine lv_aload_n hx hb dX8_height_29 rfl (lv_at hl 0 rfl) ?_
    refine r_get (k := 1) (v := .int (σ b 1)) C hP (oS hfb) rfl iX8 (by decide) wm_494 rfl rfl dX8_height_30 ?_
    refine lv_imul hx hb dX8_height_33 ?_
    refine lv_iload_n hx hb dX8_height_34 rfl (lv_at hl 2 rfl) ?_
    refine lv_iadd hx hb dX8_height_35 ?_
    have h3 := (rdK_e hf).1
    refine r_ald C hP (aS_1 hfb) h3 dX8_height_36 ?_
    refine lv_topi (fun v2 ev2 => ?_)
    replace hf := rdK_n ev2 hf
    refine lv_if_le (tgt := 44) hx hb dX8_height_37 (by decide) (fun c4 => ?_) (fun c4 => ?_)
    · replace hf := it_t c4 hf
      refine lv_iinc (v := (x2 + (-1))) (lv' := [(2, .int (x2 + (-1))), (0, .ref (ea E b)), (1, .int x1)]) hx hb dX8_height_44 hl (k := 2) rfl rfl (by decide) rfl (fun ls hl => ?_)
      refine lv_goto (tgt := 20) hx hb dX8_height_47 (by decide) ?_
      exact hr20 x1 (x2 + (-1)) hf H locs ls hP hS (lv_sub hl [1, 2, 0] rfl)
    · replace hf := it_f c4 hf
      refine lv_iload_n hx hb dX8_height_40 rfl (lv_at hl 2 rfl) ?_
      refine lv_iconst (v := 1) hx hb dX8_height_41 (by decide) ?_
      refine lv_iadd hx hb dX8_height_42 ?_
      cases hf
      exact r_iret C hP hS dX8_height_43
def fX8_height_20 (b : Nat) (σ : St) : Nat → Int32 → Int32 → Option Int32
  | 0 => fun _ _ => none
  | n + 1 => fun x1 x2 => fX8_height_20B b σ (fX8_height_20 b σ n) x1 x2
theorem b_fX8_height_20 {E : Ev} {l : Launch} {p : Program} {e : Env} {s : State} {m : MethodId} {args : Array Value} {below : List Frame} {meth : Method} {c : Code} {b : Nat} (hfb : fS b) (σ : St) (C : CX true E RX8 cX8_height 3 (some .int) p s m args meth c) {rr : Int32} : ∀ (n : Nat) (x1 : Int32) (x2 : Int32), fX8_height_20 b σ n x1 x2 = some rr → GW true l (rmD 2) E 3 p e s m args below meth c (MQ below (QI true E rr σ s.heap.size) args s 0 0 (aW true E s.heap.size)) σ 20 [(0, .ref (ea E b)), (1, .int x1), (2, .int x2)] [] := by
  intro n
  induction n with
  | zero => intro x1 x2 hf; have hf : (none : Option _) = some _ := hf; cases hf
  | succ n ih => intro x1 x2 hf; exact b_fX8_height_20B hfb σ C (fX8_height_20 b σ n) ih x1 x2 hf
def fX8_height (b : Nat) (σ : St) (a0 : Int32) : Option Int32 :=
(if (fX10_within a0 (σ b 0)) = 0 then
some 0
else
fX8_height_20 b σ FU a0 ((σ b 1) - 1))
set_option maxHeartbeats 4000000 in
theorem c_fX8_height {E : Ev} {l : Launch} {b : Nat} (hfb : fS b) (hj : jW true E) (σ : St) (sz : Nat) (a0 : Int32) {rr : Int32} (hf : fX8_height b σ a0 = some rr) : Met l yX8_height (Cond.code yX8_height cX8_height 3 (some .int) :: gT) (rmD 2) (va_Pc [.ref (ea E b), .int a0] (preW true E σ sz)) (QI true E rr σ sz) 0 0 (aW true E sz) := by
  refine r_entry (QI true E rr σ) hj (by decide) [.ref (ea E b), .int a0] (Nat.le_of_ble_eq_true rfl) (fun p e s m args below meth c C => ?_)
  intro H locs ls hP hS hl
  have hl : lv_has ls 3 [(0, .ref (ea E b)), (1, .int a0)] := hl
  obtain ⟨hx, hb, hr, hml, hown, hts, hlocks, hK, hX, hj⟩ := id C
  unfold fX8_height at hf
  refine lv_iload_n hx hb dX8_height_0 rfl (lv_at hl 1 rfl) ?_
  refine lv_aload_n hx hb dX8_height_1 rfl (lv_at hl 0 rfl) ?_
  refine r_get (k := 0) (v := .int (σ b 0)) C hP (oS hfb) rfl iX8 (by decide) wm_493 rfl rfl dX8_height_2 ?_
  refine r_cNi (n := 2) (As := [.int a0, .int (σ b 0)]) (rest := []) (host := "SoupCargo") C (c_fX10_within hj σ H.size a0 (σ b 0)) (by decide +kernel) wm_91 wm_90 wm_89 (by decide +kernel) ⟨rfl, rfl, by decide, by decide⟩ rfl rfl (Nat.le_of_ble_eq_true rfl) dX8_height_5 hP hS hl.1 (fun H locs hP hS => ?_)
  refine lv_if_ne (tgt := 13) hx hb dX8_height_8 (by decide) (fun c1 => ?_) (fun c1 => ?_)
  · replace hf := it_f c1 hf
    refine lv_aload_n hx hb dX8_height_13 rfl (lv_at hl 0 rfl) ?_
    refine r_get (k := 1) (v := .int (σ b 1)) C hP (oS hfb) rfl iX8 (by decide) wm_494 rfl rfl dX8_height_14 ?_
    refine lv_iconst (v := 1) hx hb dX8_height_17 (by decide) ?_
    refine lv_isub hx hb dX8_height_18 ?_
    refine lv_istore_n (lv' := [(2, .int ((σ b 1) - 1)), (0, .ref (ea E b)), (1, .int a0)]) hx hb dX8_height_19 rfl hl (by decide) rfl (fun ls hl => ?_)
    exact b_fX8_height_20 hfb σ C FU a0 ((σ b 1) - 1) hf H locs ls hP hS (lv_sub hl [1, 2, 0] rfl)
  · replace hf := it_t c1 hf
    refine lv_iconst (v := 0) hx hb dX8_height_11 (by decide) ?_
    cases hf
    exact r_iret C hP hS dX8_height_12
def fX10_sort (σ : St) (a0 : Int32) : Option (Int32 × St) :=
(if (fX10_within a0 3) = 0 then
some (0, σ)
else
(nmS (st_put σ 28 1 a0) fun σ2 =>
some (1, σ2)))
set_option maxHeartbeats 4000000 in
theorem c_fX10_sort {E : Ev} {l : Launch} (hj : jW true E) (σ : St) (sz : Nat) (a0 : Int32) {rr : Int32} {sr : St} (hf : fX10_sort σ a0 = some (rr, sr)) : Met l yX10_sort (Cond.code yX10_sort cX10_sort 2 (some .boolean) :: gT) (rmD 2) (va_Pc [.ref (ea E 0), .int a0] (preW true E σ sz)) (QI true E rr sr sz) 0 0 (aW true E sz) := by
  refine r_entry (QI true E rr sr) hj (by decide) [.ref (ea E 0), .int a0] (Nat.le_of_ble_eq_true rfl) (fun p e s m args below meth c C => ?_)
  intro H locs ls hP hS hl
  have hl : lv_has ls 2 [(0, .ref (ea E 0)), (1, .int a0)] := hl
  obtain ⟨hx, hb, hr, hml, hown, hts, hlocks, hK, hX, hj⟩ := id C
  unfold fX10_sort at hf
  refine lv_iload_n hx hb dX10_sort_0 rfl (lv_at hl 1 rfl) ?_
  refine lv_iconst (v := 3) hx hb dX10_sort_1 (by decide) ?_
  refine r_cSi (n := 2) (As := [.int a0, .int 3]) (rest := []) C (c_fX10_within hj σ H.size a0 3) gs_RX10_85 (by decide +kernel) ⟨rfl, rfl, by decide, by decide⟩ rfl rfl (Nat.le_of_ble_eq_true rfl) dX10_sort_2 hP hS hl.1 (fun H locs hP hS => ?_)
  refine lv_if_ne (tgt := 10) hx hb dX10_sort_5 (by decide) (fun c1 => ?_) (fun c1 => ?_)
  · replace hf := it_f c1 hf
    refine lv_aload_n hx hb dX10_sort_10 rfl (lv_at hl 0 rfl) ?_
    refine r_get (k := 5) (v := .ref (ea E 28)) C hP oC_0 rfl iX10 (by decide) wm_509 rfl rfl dX10_sort_11 ?_
    refine lv_iload_n hx hb dX10_sort_14 rfl (lv_at hl 1 rfl) ?_
    refine r_put (k := 1) (x := a0) C hP hS tyX2 tyX2_ok nmX2 oC_28 rfl iX2 (by decide) wm_510 rfl rfl sC_28_1 rfl rfl (Nat.le_of_ble_eq_true rfl) dX10_sort_15 (fun H locs hP hS => ?_)
    obtain ⟨σ2, eσ2, hf⟩ := nmS_e hf
    rw [← eσ2] at hP
    refine lv_iconst (v := 1) hx hb dX10_sort_18 (by decide) ?_
    cases hf
    exact r_zret C rfl hP hS dX10_sort_19
  · replace hf := it_t c1 hf
    refine lv_iconst (v := 0) hx hb dX10_sort_8 (by decide) ?_
    cases hf
    exact r_zret C rfl hP hS dX10_sort_9
def fX10_sky (σ : St) (a0 : Int32) (a1 : Int32) (a2 : Int32) : Option (Int32 × St) :=
(cb (fX7_tell σ a0 a1 a2) fun r1 σ3 =>
(zb r1 (some (r1, σ3))))
set_option maxHeartbeats 4000000 in
theorem c_fX10_sky {E : Ev} {l : Launch} (hj : jW true E) (σ : St) (sz : Nat) (a0 : Int32) (a1 : Int32) (a2 : Int32) {rr : Int32} {sr : St} (hf : fX10_sky σ a0 a1 a2 = some (rr, sr)) : Met l yX10_sky (Cond.code yX10_sky cX10_sky 4 (some .boolean) :: gT) (rmD 3) (va_Pc [.ref (ea E 0), .int a0, .int a1, .int a2] (preW true E σ sz)) (QI true E rr sr sz) 0 0 (aW true E sz) := by
  refine r_entry (QI true E rr sr) hj (by decide) [.ref (ea E 0), .int a0, .int a1, .int a2] (Nat.le_of_ble_eq_true rfl) (fun p e s m args below meth c C => ?_)
  intro H locs ls hP hS hl
  have hl : lv_has ls 4 [(0, .ref (ea E 0)), (1, .int a0), (2, .int a1), (3, .int a2)] := hl
  obtain ⟨hx, hb, hr, hml, hown, hts, hlocks, hK, hX, hj⟩ := id C
  unfold fX10_sky at hf
  refine lv_aload_n hx hb dX10_sky_0 rfl (lv_at hl 0 rfl) ?_
  refine r_get (k := 0) (v := .ref (ea E 2)) C hP oC_0 rfl iX10 (by decide) wm_511 rfl rfl dX10_sky_1 ?_
  refine lv_iload_n hx hb dX10_sky_4 rfl (lv_at hl 1 rfl) ?_
  refine lv_iload_n hx hb dX10_sky_5 rfl (lv_at hl 2 rfl) ?_
  refine lv_iload_n hx hb dX10_sky_6 rfl (lv_at hl 3 rfl) ?_
  obtain ⟨r1, σ3, hc2, hf⟩ := cb_e hf
  refine r_cVi (n := 3) (As := [.int a0, .int a1, .int a2]) (rest := []) C (c_fX7_tell hj σ H.size a0 a1 a2 hc2) oC_2 rfl gv_RX10_92 (by decide +kernel) ⟨rfl, rfl, by decide, by decide⟩ rfl rfl (Nat.le_of_ble_eq_true rfl) dX10_sky_7 hP hS hl.1 (fun H locs hP hS => ?_)
  obtain ⟨hz, hf⟩ := zb_e hf
  cases hf
  exact r_zret C (zb_nar hz) hP hS dX10_sky_10
def fX10_heap_79 (σ : St) (x4 : Int32) (x5 : Int32) (x6 : Int32) : Option (Int32 × St) :=
(wrK (stN 5) σ (5 + 1) x6 x4 fun σ1 =>
(wrK (stN 5) σ1 (5 + 2) x6 x5 fun σ3 =>
some (1, σ3)))
set_option maxHeartbeats 4000000 in
theorem b_fX10_heap_79 {E : Ev} {l : Launch} {p : Program} {e : Env} {s : State} {m : MethodId} {args : Array Value} {below : List Frame} {meth : Method} {c : Code} (C : CX true E RX10 cX10_heap 8 (some .boolean) p s m args meth c) {rr : Int32} {sr : St} : ∀ (σ : St) (x4 : Int32) (x5 : Int32) (x6 : Int32), fX10_heap_79 σ x4 x5 x6 = some (rr, sr) → GW true l (rmD 3) E 8 p e s m args below meth c (MQ below (QI true E rr sr s.heap.size) args s 0 0 (aW true E s.heap.size)) σ 79 [(0, .ref (ea E 0)), (4, .int x4), (5, .int x5), (6, .int x6)] [] := by
  intro σ x4 x5 x6 hf H locs ls hP hS hl
  obtain ⟨hx, hb, hr, hml, hown, hts, hlocks, hK, hX, hj⟩ := id C
  unfold fX10_heap_79 at hf
  refine lv_aload_n hx hb dX10_heap_79 rfl (lv_at hl 0 rfl) ?_
  refine r_get (k := 1) (v := .ref (ea E 5)) C hP oC_0 rfl iX10 (by decide) wm_99 rfl rfl dX10_heap_80 ?_
  refine r_get (k := 3) (v := .ref (ea E (5 + 1))) C hP (oS fS_5) rfl iX8 (by decide) wm_518 rfl rfl dX10_heap_83 ?_
  refine lv_iload hx hb dX10_heap_86 (lv_at hl 3 rfl) ?_
  refine lv_iload hx hb dX10_heap_88 (lv_at hl 1 rfl) ?_
  obtain ⟨h2, σ1, eσ1, hf⟩ := wrK_e hf
  refine r_ast C hP hS (aS_1 fS_5) h2 dX10_heap_90 (fun H locs hP hS => ?_)
  rw [← eσ1] at hP
  refine lv_aload_n hx hb dX10_heap_91 rfl (lv_at hl 0 rfl) ?_
  refine r_get (k := 1) (v := .ref (ea E 5)) C hP oC_0 rfl iX10 (by decide) wm_99 rfl rfl dX10_heap_92 ?_
  refine r_get (k := 4) (v := .ref (ea E (5 + 2))) C hP (oS fS_5) rfl iX8 (by decide) wm_519 rfl rfl dX10_heap_95 ?_
  refine lv_iload hx hb dX10_heap_98 (lv_at hl 3 rfl) ?_
  refine lv_iload hx hb dX10_heap_100 (lv_at hl 2 rfl) ?_
  obtain ⟨h4, σ3, eσ3, hf⟩ := wrK_e hf
  refine r_ast C hP hS (aS_2 fS_5) h4 dX10_heap_102 (fun H locs hP hS => ?_)
  rw [← eσ3] at hP
  refine lv_iconst (v := 1) hx hb dX10_heap_103 (by decide) ?_
  cases hf
  exact r_zret C rfl hP hS dX10_heap_104
def fX10_heap (σ : St) (a0 : Int32) (a1 : Int32) (a2 : Int32) (a3 : Int32) (a4 : Int32) : Option (Int32 × St) :=
(if (fX10_heapCell a0 a1 a2) = (-1) then
some (0, σ)
else
(if (fX10_within a3 100) = 0 then
some (0, σ)
else
(if (fX10_within a4 10000) = 0 then
some (0, σ)
else
(cq (fX8_height 5 σ ((fX10_heapCell a0 a1 a2) / 4)) fun r4 =>
(if a3 ≤ 0 then
(if 0 < a4 then
some (0, σ)
else
(if r4 ≤ (a2 + 1) then
fX10_heap_79 σ a3 a4 (fX10_heapCell a0 a1 a2)
else
some (0, σ)))
else
(if a2 ≤ r4 then
fX10_heap_79 σ a3 a4 (fX10_heapCell a0 a1 a2)
else
some (0, σ)))))))
set_option maxHeartbeats 4000000 in
theorem c_fX10_heap {E : Ev} {l : Launch} (hj : jW true E) (σ : St) (sz : Nat) (a0 : Int32) (a1 : Int32) (a2 : Int32) (a3 : Int32) (a4 : Int32) {rr : Int32} {sr : St} (hf : fX10_heap σ a0 a1 a2 a3 a4 = some (rr, sr)) : Met l yX10_heap (Cond.code yX10_heap cX10_heap 8 (some .boolean) :: gT) (rmD 3) (va_Pc [.ref (ea E 0), .int a0, .int a1, .int a2, .int a3, .int a4] (preW true E σ sz)) (QI true E rr sr sz) 0 0 (aW true E sz) := by
  refine r_entry (QI true E rr sr) hj (by decide) [.ref (ea E 0), .int a0, .int a1, .int a2, .int a3, .int a4] (Nat.le_of_ble_eq_true rfl) (fun p e s m args below meth c C => ?_)
  intro H locs ls hP hS hl
  have hl : lv_has ls 8 [(0, .ref (ea E 0)), (1, .int a0), (2, .int a1), (3, .int a2), (4, .int a3), (5, .int a4)] := hl
  obtain ⟨hx, hb, hr, hml, hown, hts, hlocks, hK, hX, hj⟩ := id C
  unfold fX10_heap at hf
  refine lv_iload_n hx hb dX10_heap_0 rfl (lv_at hl 1 rfl) ?_
  refine lv_iload_n hx hb dX10_heap_1 rfl (lv_at hl 2 rfl) ?_
  refine lv_iload_n hx hb dX10_heap_2 rfl (lv_at hl 3 rfl) ?_
  refine r_cSi (n := 3) (As := [.int a0, .int a1, .int a2]) (rest := []) C (c_fX10_heapCell hj σ H.size a0 a1 a2) gs_RX10_96 (by decide +kernel) ⟨rfl, rfl, by decide, by decide⟩ rfl rfl (Nat.le_of_ble_eq_true rfl) dX10_heap_3 hP hS hl.1 (fun H locs hP hS => ?_)
  refine lv_istore (lv' := [(6, .int (fX10_heapCell a0 a1 a2)), (0, .ref (ea E 0)), (1, .int a0), (2, .int a1), (3, .int a2), (4, .int a3), (5, .int a4)]) hx hb dX10_heap_6 hl (by decide) rfl (fun ls hl => ?_)
  refine lv_iload hx hb dX10_heap_8 (lv_at hl 0 rfl) ?_
  refine lv_iconst (v := (-1)) hx hb dX10_heap_10 (by decide) ?_
  refine lv_icmp_eq (tgt := 35) hx hb dX10_heap_11 (by decide) (fun c1 => ?_) (fun c1 => ?_)
  · replace hf := it_t c1 hf
    refine lv_iconst (v := 0) hx hb dX10_heap_35 (by decide) ?_
    cases hf
    exact r_zret C rfl hP hS dX10_heap_36
  · replace hf := it_f c1 hf
    refine lv_iload hx hb dX10_heap_14 (lv_at hl 5 rfl) ?_
    refine lv_bipush (v := 100) hx hb dX10_heap_16 (by decide) ?_
    refine r_cSi (n := 2) (As := [.int a3, .int 100]) (rest := []) C (c_fX10_within hj σ H.size a3 100) gs_RX10_85 (by decide +kernel) ⟨rfl, rfl, by decide, by decide⟩ rfl rfl (Nat.le_of_ble_eq_true rfl) dX10_heap_18 hP hS hl.1 (fun H locs hP hS => ?_)
    refine lv_if_eq (tgt := 35) hx hb dX10_heap_21 (by decide) (fun c2 => ?_) (fun c2 => ?_)
    · replace hf := it_t c2 hf
      refine lv_iconst (v := 0) hx hb dX10_heap_35 (by decide) ?_
      cases hf
      exact r_zret C rfl hP hS dX10_heap_36
    · replace hf := it_f c2 hf
      refine lv_iload hx hb dX10_heap_24 (lv_at hl 6 rfl) ?_
      refine lv_sipush (v := 10000) hx hb dX10_heap_26 (by decide) ?_
      refine r_cSi (n := 2) (As := [.int a4, .int 10000]) (rest := []) C (c_fX10_within hj σ H.size a4 10000) gs_RX10_85 (by decide +kernel) ⟨rfl, rfl, by decide, by decide⟩ rfl rfl (Nat.le_of_ble_eq_true rfl) dX10_heap_29 hP hS hl.1 (fun H locs hP hS => ?_)
      refine lv_if_ne (tgt := 37) hx hb dX10_heap_32 (by decide) (fun c3 => ?_) (fun c3 => ?_)
      · replace hf := it_f c3 hf
        refine lv_aload_n hx hb dX10_heap_37 rfl (lv_at hl 1 rfl) ?_
        refine r_get (k := 1) (v := .ref (ea E 5)) C hP oC_0 rfl iX10 (by decide) wm_99 rfl rfl dX10_heap_38 ?_
        refine lv_iload hx hb dX10_heap_41 (lv_at hl 0 rfl) ?_
        refine lv_iconst (v := 4) hx hb dX10_heap_43 (by decide) ?_
        refine lv_idiv hx hb dX10_heap_44 (by decide) ?_
        obtain ⟨r4, hc5, hf⟩ := cq_e hf
        refine r_cVi (n := 1) (As := [.int ((fX10_heapCell a0 a1 a2) / 4)]) (rest := []) C (c_fX8_height fS_5 hj σ H.size ((fX10_heapCell a0 a1 a2) / 4) hc5) (oS fS_5) rfl gv_RX10_100 (by decide +kernel) ⟨rfl, rfl, by decide, by decide⟩ rfl rfl (Nat.le_of_ble_eq_true rfl) dX10_heap_45 hP hS hl.1 (fun H locs hP hS => ?_)
        refine lv_istore (lv' := [(7, .int r4), (6, .int (fX10_heapCell a0 a1 a2)), (0, .ref (ea E 0)), (1, .int a0), (2, .int a1), (3, .int a2), (4, .int a3), (5, .int a4)]) hx hb dX10_heap_48 hl (by decide) rfl (fun ls hl => ?_)
        refine lv_iload hx hb dX10_heap_50 (lv_at hl 6 rfl) ?_
        refine lv_if_le (tgt := 64) hx hb dX10_heap_52 (by decide) (fun c6 => ?_) (fun c6 => ?_)
        · replace hf := it_t c6 hf
          refine lv_iload hx hb dX10_heap_64 (lv_at hl 7 rfl) ?_
          refine lv_if_gt (tgt := 77) hx hb dX10_heap_66 (by decide) (fun c7 => ?_) (fun c7 => ?_)
          · replace hf := it_t c7 hf
            refine lv_iconst (v := 0) hx hb dX10_heap_77 (by decide) ?_
            cases hf
            exact r_zret C rfl hP hS dX10_heap_78
          · replace hf := it_f c7 hf
            refine lv_iload_n hx hb dX10_heap_69 rfl (lv_at hl 5 rfl) ?_
            refine lv_iconst (v := 1) hx hb dX10_heap_70 (by decide) ?_
            refine lv_iadd hx hb dX10_heap_71 ?_
            refine lv_iload hx hb dX10_heap_72 (lv_at hl 0 rfl) ?_
            refine lv_icmp_ge (tgt := 79) hx hb dX10_heap_74 (by decide) (fun c8 => ?_) (fun c8 => ?_)
            · replace hf := it_t c8 hf
              exact b_fX10_heap_79 C σ a3 a4 (fX10_heapCell a0 a1 a2) hf H locs ls hP hS (lv_sub hl [2, 6, 7, 1] rfl)
            · replace hf := it_f c8 hf
              refine lv_iconst (v := 0) hx hb dX10_heap_77 (by decide) ?_
              cases hf
              exact r_zret C rfl hP hS dX10_heap_78
        · replace hf := it_f c6 hf
          refine lv_iload_n hx hb dX10_heap_55 rfl (lv_at hl 5 rfl) ?_
          refine lv_iload hx hb dX10_heap_56 (lv_at hl 0 rfl) ?_
          refine lv_icmp_le (tgt := 79) hx hb dX10_heap_58 (by decide) (fun c9 => ?_) (fun c9 => ?_)
          · replace hf := it_t c9 hf
            exact b_fX10_heap_79 C σ a3 a4 (fX10_heapCell a0 a1 a2) hf H locs ls hP hS (lv_sub hl [2, 6, 7, 1] rfl)
          · replace hf := it_f c9 hf
            refine lv_goto (tgt := 77) hx hb dX10_heap_61 (by decide) ?_
            refine lv_iconst (v := 0) hx hb dX10_heap_77 (by decide) ?_
            cases hf
            exact r_zret C rfl hP hS dX10_heap_78
      · replace hf := it_t c3 hf
        refine lv_iconst (v := 0) hx hb dX10_heap_35 (by decide) ?_
        cases hf
        exact r_zret C rfl hP hS dX10_heap_36
def fX10_cell (σ : St) (a0 : Int32) (a1 : Int32) (a2 : Int32) (a3 : Int32) (a4 : Int32) : Option Int32 :=
(if (fX10_cellOf a0 a1 a2 a3) = (-1) then
some (-1)
else
(if a4 = 0 then
(rdK (stN (fX10_stacksOf a0)) (σ ((fX10_stacksOf a0) + 1)) (fX10_cellOf a0 a1 a2 a3) fun v3 =>
some v3)
else
(if a4 = 1 then
(rdK (stN (fX10_stacksOf a0)) (σ ((fX10_stacksOf a0) + 2)) (fX10_cellOf a0 a1 a2 a3) fun v6 =>
some v6)
else
(if a4 = 2 then
(cq (fX8_wetAt (fX10_stacksOf a0) σ (fX10_cellOf a0 a1 a2 a3)) fun r9 =>
some r9)
else
(if a4 = 3 then
(rdK (stN (fX10_stacksOf a0)) (σ ((fX10_stacksOf a0) + 3)) (fX10_cellOf a0 a1 a2 a3) fun v12 =>
some v12)
else
(if a4 = 4 then
(rdK (stN (fX10_stacksOf a0)) (σ ((fX10_stacksOf a0) + 4)) (fX10_cellOf a0 a1 a2 a3) fun v15 =>
some v15)
else
some (-1)))))))
set_option maxHeartbeats 4000000 in
theorem c_fX10_cell {E : Ev} {l : Launch} (hj : jW true E) (σ : St) (sz : Nat) (a0 : Int32) (a1 : Int32) (a2 : Int32) (a3 : Int32) (a4 : Int32) {rr : Int32} (hf : fX10_cell σ a0 a1 a2 a3 a4 = some rr) : Met l yX10_cell (Cond.code yX10_cell cX10_cell 8 (some .int) :: gT) (rmD 4) (va_Pc [.ref (ea E 0), .int a0, .int a1, .int a2, .int a3, .int a4] (preW true E σ sz)) (QI true E rr σ sz) 0 0 (aW true E sz) := by
  refine r_entry (QI true E rr σ) hj (by decide) [.ref (ea E 0), .int a0, .int a1, .int a2, .int a3, .int a4] (Nat.le_of_ble_eq_true rfl) (fun p e s m args below meth c C => ?_)
  intro H locs ls hP hS hl
  have hl : lv_has ls 8 [(0, .ref (ea E 0)), (1, .int a0), (2, .int a1), (3, .int a2), (4, .int a3), (5, .int a4)] := hl
  obtain ⟨hx, hb, hr, hml, hown, hts, hlocks, hK, hX, hj⟩ := id C
  unfold fX10_cell at hf
  refine lv_aload_n hx hb dX10_cell_0 rfl (lv_at hl 0 rfl) ?_
  refine lv_iload_n hx hb dX10_cell_1 rfl (lv_at hl 1 rfl) ?_
  refine r_cVr (n := 1) (As := [.int a0]) (rest := []) C (c_fX10_stacksOf hj σ H.size a0) oC_0 rfl gv_RX10_110 (by decide +kernel) ⟨rfl, rfl, by decide, by decide⟩ rfl rfl (Nat.le_of_ble_eq_true rfl) dX10_cell_2 hP hS hl.1 (fun H locs hP hS => ?_)
  refine lv_astore (lv' := [(6, .ref (ea E (fX10_stacksOf a0))), (0, .ref (ea E 0)), (1, .int a0), (2, .int a1), (3, .int a2), (4, .int a3), (5, .int a4)]) hx hb dX10_cell_5 hl (by decide) rfl (fun ls hl => ?_)
  refine lv_iload_n hx hb dX10_cell_7 rfl (lv_at hl 2 rfl) ?_
  refine lv_iload_n hx hb dX10_cell_8 rfl (lv_at hl 3 rfl) ?_
  refine lv_iload_n hx hb dX10_cell_9 rfl (lv_at hl 4 rfl) ?_
  refine lv_iload hx hb dX10_cell_10 (lv_at hl 5 rfl) ?_
  refine r_cSi (n := 4) (As := [.int a0, .int a1, .int a2, .int a3]) (rest := []) C (c_fX10_cellOf hj σ H.size a0 a1 a2 a3) gs_RX10_114 (by decide +kernel) ⟨rfl, rfl, by decide, by decide⟩ rfl rfl (Nat.le_of_ble_eq_true rfl) dX10_cell_12 hP hS hl.1 (fun H locs hP hS => ?_)
  refine lv_istore (lv' := [(7, .int (fX10_cellOf a0 a1 a2 a3)), (6, .ref (ea E (fX10_stacksOf a0))), (0, .ref (ea E 0)), (1, .int a0), (2, .int a1), (3, .int a2), (4, .int a3), (5, .int a4)]) hx hb dX10_cell_15 hl (by decide) rfl (fun ls hl => ?_)
  refine lv_iload hx hb dX10_cell_17 (lv_at hl 0 rfl) ?_
  refine lv_iconst (v := (-1)) hx hb dX10_cell_19 (by decide) ?_
  refine lv_icmp_ne (tgt := 25) hx hb dX10_cell_20 (by decide) (fun c1 => ?_) (fun c1 => ?_)
  · replace hf := it_f c1 hf
    refine lv_iload hx hb dX10_cell_25 (lv_at hl 7 rfl) ?_
    by_cases c2 : a4 = 0
    · replace hf := it_t c2 hf
      refine lv_tableIn (tgt := 60) hx hb dX10_cell_27 (by rw [c2]; decide) (by rw [c2]; decide) (by rw [c2]; rfl) (by decide) ?_
      refine lv_aload hx hb dX10_cell_60 (lv_at hl 1 rfl) ?_
      refine r_get (k := 3) (v := .ref (ea E ((fX10_stacksOf a0) + 1))) C hP (oS (h_fX10_stacksOf a0)) rfl iX8 (by decide) wm_518 rfl rfl dX10_cell_62 ?_
      refine lv_iload hx hb dX10_cell_65 (lv_at hl 0 rfl) ?_
      have h4 := (rdK_e hf).1
      refine r_ald C hP (aS_1 (h_fX10_stacksOf a0)) h4 dX10_cell_67 ?_
      refine lv_topi (fun v3 ev3 => ?_)
      replace hf := rdK_n ev3 hf
      cases hf
      exact r_iret C hP hS dX10_cell_68
    · replace hf := it_f c2 hf
      by_cases c5 : a4 = 1
      · replace hf := it_t c5 hf
        refine lv_tableIn (tgt := 69) hx hb dX10_cell_27 (by rw [c5]; decide) (by rw [c5]; decide) (by rw [c5]; rfl) (by decide) ?_
        refine lv_aload hx hb dX10_cell_69 (lv_at hl 1 rfl) ?_
        refine r_get (k := 4) (v := .ref (ea E ((fX10_stacksOf a0) + 2))) C hP (oS (h_fX10_stacksOf a0)) rfl iX8 (by decide) wm_519 rfl rfl dX10_cell_71 ?_
        refine lv_iload hx hb dX10_cell_74 (lv_at hl 0 rfl) ?_
        have h7 := (rdK_e hf).1
        refine r_ald C hP (aS_2 (h_fX10_stacksOf a0)) h7 dX10_cell_76 ?_
        refine lv_topi (fun v6 ev6 => ?_)
        replace hf := rdK_n ev6 hf
        cases hf
        exact r_iret C hP hS dX10_cell_77
      · replace hf := it_f c5 hf
        by_cases c8 : a4 = 2
        · replace hf := it_t c8 hf
          refine lv_tableIn (tgt := 78) hx hb dX10_cell_27 (by rw [c8]; decide) (by rw [c8]; decide) (by rw [c8]; rfl) (by decide) ?_
          refine lv_aload hx hb dX10_cell_78 (lv_at hl 1 rfl) ?_
          refine lv_iload hx hb dX10_cell_80 (lv_at hl 0 rfl) ?_
          obtain ⟨r9, hc10, hf⟩ := cq_e hf
          refine r_cVi (n := 1) (As := [.int (fX10_cellOf a0 a1 a2 a3)]) (rest := []) C (c_fX8_wetAt (h_fX10_stacksOf a0) hj σ H.size (fX10_cellOf a0 a1 a2 a3) hc10) (oS (h_fX10_stacksOf a0)) rfl gv_RX10_118 (by decide +kernel) ⟨rfl, rfl, by decide, by decide⟩ rfl rfl (Nat.le_of_ble_eq_true rfl) dX10_cell_82 hP hS hl.1 (fun H locs hP hS => ?_)
          cases hf
          exact r_iret C hP hS dX10_cell_85
        · replace hf := it_f c8 hf
          by_cases c11 : a4 = 3
          · replace hf := it_t c11 hf
            refine lv_tableIn (tgt := 86) hx hb dX10_cell_27 (by rw [c11]; decide) (by rw [c11]; decide) (by rw [c11]; rfl) (by decide) ?_
            refine lv_aload hx hb dX10_cell_86 (lv_at hl 1 rfl) ?_
            refine r_get (k := 5) (v := .ref (ea E ((fX10_stacksOf a0) + 3))) C hP (oS (h_fX10_stacksOf a0)) rfl iX8 (by decide) wm_531 rfl rfl dX10_cell_88 ?_
            refine lv_iload hx hb dX10_cell_91 (lv_at hl 0 rfl) ?_
            have h13 := (rdK_e hf).1
            refine r_ald C hP (aS_3 (h_fX10_stacksOf a0)) h13 dX10_cell_93 ?_
            refine lv_topi (fun v12 ev12 => ?_)
            replace hf := rdK_n ev12 hf
            cases hf
            exact r_iret C hP hS dX10_cell_94
          · replace hf := it_f c11 hf
            by_cases c14 : a4 = 4
            · replace hf := it_t c14 hf
              refine lv_tableIn (tgt := 95) hx hb dX10_cell_27 (by rw [c14]; decide) (by rw [c14]; decide) (by rw [c14]; rfl) (by decide) ?_
              refine lv_aload hx hb dX10_cell_95 (lv_at hl 1 rfl) ?_
              refine r_get (k := 6) (v := .ref (ea E ((fX10_stacksOf a0) + 4))) C hP (oS (h_fX10_stacksOf a0)) rfl iX8 (by decide) wm_532 rfl rfl dX10_cell_97 ?_
              refine lv_iload hx hb dX10_cell_100 (lv_at hl 0 rfl) ?_
              have h16 := (rdK_e hf).1
              refine r_ald C hP (aS_4 (h_fX10_stacksOf a0)) h16 dX10_cell_102 ?_
              refine lv_topi (fun v15 ev15 => ?_)
              replace hf := rdK_n ev15 hf
              cases hf
              exact r_iret C hP hS dX10_cell_103
            · replace hf := it_f c14 hf
              have nc2 := lv_neT (a := 0) c2 (by decide)
              have nc5 := lv_neT (a := 1) c5 (by decide)
              have nc8 := lv_neT (a := 2) c8 (by decide)
              have nc11 := lv_neT (a := 3) c11 (by decide)
              have nc14 := lv_neT (a := 4) c14 (by decide)
              refine lv_tableOut (tgt := 104) hx hb dX10_cell_27 (by omega) (by decide) ?_
              refine lv_iconst (v := (-1)) hx hb dX10_cell_104 (by decide) ?_
              cases hf
              exact r_iret C hP hS dX10_cell_105
  · replace hf := it_t c1 hf
    refine lv_iconst (v := (-1)) hx hb dX10_cell_23 (by decide) ?_
    cases hf
    exact r_iret C hP hS dX10_cell_24
