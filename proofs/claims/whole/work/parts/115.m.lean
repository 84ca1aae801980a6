def fX10_cell (σ : St) (a0 : Int32) (a1 : Int32) (a2 : Int32) (a3 : Int32) (a4 : Int32) : Option Int32 :=
(if (fX10_cellOf a0 a1 a2 a3) = (-1) then
some (-1)
else
(if a4 = 0 then
(rdK (stN (fX10_stacksOf a0)) (σ ((fX10_stacksOf a0) + 1)) (fX10_cellOf a0 a1 a2 a3) fun v3 =>
some v3)
else
(if a4 = 1 then
(rdK (stN (fX10_stacksOf a0)) (σ ((fX10_stacksOf a0) + 2)) (fX10_cellOf a0 a1 a2 a3) fun v6 =>
some v6)
else
(if a4 = 2 then
(cq (fX8_wetAt (fX10_stacksOf a0) σ (fX10_cellOf a0 a1 a2 a3)) fun r9 =>
some r9)
else
(if a4 = 3 then
(rdK (stN (fX10_stacksOf a0)) (σ ((fX10_stacksOf a0) + 3)) (fX10_cellOf a0 a1 a2 a3) fun v12 =>
some v12)
else
(if a4 = 4 then
(rdK (stN (fX10_stacksOf a0)) (σ ((fX10_stacksOf a0) + 4)) (fX10_cellOf a0 a1 a2 a3) fun v15 =>
some v15)
else
some (-1)))))))
set_option maxHeartbeats 4000000 in
theorem c_fX10_cell {E : Ev} {l : Launch} (hj : jW true E) (σ : St) (sz : Nat) (a0 : Int32) (a1 : Int32) (a2 : Int32) (a3 : Int32) (a4 : Int32) {rr : Int32} (hf : fX10_cell σ a0 a1 a2 a3 a4 = some rr) : Met l yX10_cell (Cond.code yX10_cell cX10_cell 8 (some .int) :: gT) (rmD 4) (va_Pc [.ref (ea E 0), .int a0, .int a1, .int a2, .int a3, .int a4] (preW true E σ sz)) (QI true E rr σ sz) 0 0 (aW true E sz) := by
  refine r_entry (QI true E rr σ) hj (by decide) [.ref (ea E 0), .int a0, .int a1, .int a2, .int a3, .int a4] (Nat.le_of_ble_eq_true rfl) (fun p e s m args below meth c C => ?_)
  intro H locs ls hP hS hl
  have hl : lv_has ls 8 [(0, .ref (ea E 0)), (1, .int a0), (2, .int a1), (3, .int a2), (4, .int a3), (5, .int a4)] := hl
  obtain ⟨hx, hb, hr, hml, hown, hts, hlocks, hK, hX, hj⟩ := id C
  unfold fX10_cell at hf
  refine lv_aload_n hx hb dX10_cell_0 rfl (lv_at hl 0 rfl) ?_
  refine lv_iload_n hx hb dX10_cell_1 rfl (lv_at hl 1 rfl) ?_
  refine r_cVr (n := 1) (As := [.int a0]) (rest := []) C (c_fX10_stacksOf hj σ H.size a0) oC_0 rfl gv_RX10_110 (by decide +kernel) (rmD_le (by decide) (by decide)) rfl rfl (Nat.le_of_ble_eq_true rfl) dX10_cell_2 hP hS hl.1 (fun H locs hP hS => ?_)
  refine lv_astore (lv' := [(6, .ref (ea E (fX10_stacksOf a0))), (0, .ref (ea E 0)), (1, .int a0), (2, .int a1), (3, .int a2), (4, .int a3), (5, .int a4)]) hx hb dX10_cell_5 hl (by decide) rfl (fun ls hl => ?_)
  refine lv_iload_n hx hb dX10_cell_7 rfl (lv_at hl 2 rfl) ?_
  refine lv_iload_n hx hb dX10_cell_8 rfl (lv_at hl 3 rfl) ?_
  refine lv_iload_n hx hb dX10_cell_9 rfl (lv_at hl 4 rfl) ?_
  refine lv_iload hx hb dX10_cell_10 (lv_at hl 5 rfl) ?_
  refine r_cSi (n := 4) (As := [.int a0, .int a1, .int a2, .int a3]) (rest := []) C (c_fX10_cellOf hj σ H.size a0 a1 a2 a3) gs_RX10_114 (by decide +kernel) (rmD_le (by decide) (by decide)) rfl rfl (Nat.le_of_ble_eq_true rfl) dX10_cell_12 hP hS hl.1 (fun H locs hP hS => ?_)
  refine lv_istore (lv' := [(7, .int (fX10_cellOf a0 a1 a2 a3)), (6, .ref (ea E (fX10_stacksOf a0))), (0, .ref (ea E 0)), (1, .int a0), (2, .int a1), (3, .int a2), (4, .int a3), (5, .int a4)]) hx hb dX10_cell_15 hl (by decide) rfl (fun ls hl => ?_)
  refine lv_iload hx hb dX10_cell_17 (lv_at hl 0 rfl) ?_
  refine lv_iconst (v := (-1)) hx hb dX10_cell_19 (by decide) ?_
  refine lv_icmp_ne (tgt := 25) hx hb dX10_cell_20 (by decide) (fun c1 => ?_) (fun c1 => ?_)
  · replace hf := it_f c1 hf
    refine lv_iload hx hb dX10_cell_25 (lv_at hl 7 rfl) ?_
    by_cases c2 : a4 = 0
    · replace hf := it_t c2 hf
      refine lv_tableIn (tgt := 60) hx hb dX10_cell_27 (by rw [c2]; decide) (by rw [c2]; decide) (by rw [c2]; rfl) (by decide) ?_
      refine lv_aload hx hb dX10_cell_60 (lv_at hl 1 rfl) ?_
      refine r_get (k := 3) (v := .ref (ea E ((fX10_stacksOf a0) + 1))) C hP (oS (h_fX10_stacksOf a0)) rfl iX8 (by decide) wm_t57 rfl rfl dX10_cell_62 ?_
      refine lv_iload hx hb dX10_cell_65 (lv_at hl 0 rfl) ?_
      have h4 := (rdK_e hf).1
      refine r_ald C hP (aS_1 (h_fX10_stacksOf a0)) h4 dX10_cell_67 ?_
      refine lv_topi (fun v3 ev3 => ?_)
      replace hf := rdK_n ev3 hf
      cases hf
      exact r_iret C hP hS dX10_cell_68
    · replace hf := it_f c2 hf
      by_cases c5 : a4 = 1
      · replace hf := it_t c5 hf
        refine lv_tableIn (tgt := 69) hx hb dX10_cell_27 (by rw [c5]; decide) (by rw [c5]; decide) (by rw [c5]; rfl) (by decide) ?_
        refine lv_aload hx hb dX10_cell_69 (lv_at hl 1 rfl) ?_
        refine r_get (k := 4) (v := .ref (ea E ((fX10_stacksOf a0) + 2))) C hP (oS (h_fX10_stacksOf a0)) rfl iX8 (by decide) wm_t61 rfl rfl dX10_cell_71 ?_
        refine lv_iload hx hb dX10_cell_74 (lv_at hl 0 rfl) ?_
        have h7 := (rdK_e hf).1
        refine r_ald C hP (aS_2 (h_fX10_stacksOf a0)) h7 dX10_cell_76 ?_
        refine lv_topi (fun v6 ev6 => ?_)
        replace hf := rdK_n ev6 hf
        cases hf
        exact r_iret C hP hS dX10_cell_77
      · replace hf := it_f c5 hf
        by_cases c8 : a4 = 2
        · replace hf := it_t c8 hf
          refine lv_tableIn (tgt := 78) hx hb dX10_cell_27 (by rw [c8]; decide) (by rw [c8]; decide) (by rw [c8]; rfl) (by decide) ?_
          refine lv_aload hx hb dX10_cell_78 (lv_at hl 1 rfl) ?_
          refine lv_iload hx hb dX10_cell_80 (lv_at hl 0 rfl) ?_
          obtain ⟨r9, hc10, hf⟩ := cq_e hf
          refine r_cVi (n := 1) (As := [.int (fX10_cellOf a0 a1 a2 a3)]) (rest := []) C (c_fX8_wetAt (h_fX10_stacksOf a0) hj σ H.size (fX10_cellOf a0 a1 a2 a3) hc10) (oS (h_fX10_stacksOf a0)) rfl gv_RX10_118 (by decide +kernel) (rmD_le (by decide) (by decide)) rfl rfl (Nat.le_of_ble_eq_true rfl) dX10_cell_82 hP hS hl.1 (fun H locs hP hS => ?_)
          cases hf
          exact r_iret C hP hS dX10_cell_85
        · replace hf := it_f c8 hf
          by_cases c11 : a4 = 3
          · replace hf := it_t c11 hf
            refine lv_tableIn (tgt := 86) hx hb dX10_cell_27 (by rw [c11]; decide) (by rw [c11]; decide) (by rw [c11]; rfl) (by decide) ?_
            refine lv_aload hx hb dX10_cell_86 (lv_at hl 1 rfl) ?_
            refine r_get (k := 5) (v := .ref (ea E ((fX10_stacksOf a0) + 3))) C hP (oS (h_fX10_stacksOf a0)) rfl iX8 (by decide) wm_t64 rfl rfl dX10_cell_88 ?_
            refine lv_iload hx hb dX10_cell_91 (lv_at hl 0 rfl) ?_
            have h13 := (rdK_e hf).1
            refine r_ald C hP (aS_3 (h_fX10_stacksOf a0)) h13 dX10_cell_93 ?_
            refine lv_topi (fun v12 ev12 => ?_)
            replace hf := rdK_n ev12 hf
            cases hf
            exact r_iret C hP hS dX10_cell_94
          · replace hf := it_f c11 hf
            by_cases c14 : a4 = 4
            · replace hf := it_t c14 hf
              refine lv_tableIn (tgt := 95) hx hb dX10_cell_27 (by rw [c14]; decide) (by rw [c14]; decide) (by rw [c14]; rfl) (by decide) ?_
              refine lv_aload hx hb dX10_cell_95 (lv_at hl 1 rfl) ?_
              refine r_get (k := 6) (v := .ref (ea E ((fX10_stacksOf a0) + 4))) C hP (oS (h_fX10_stacksOf a0)) rfl iX8 (by decide) wm_t66 rfl rfl dX10_cell_97 ?_
              refine lv_iload hx hb dX10_cell_100 (lv_at hl 0 rfl) ?_
              have h16 := (rdK_e hf).1
              refine r_ald C hP (aS_4 (h_fX10_stacksOf a0)) h16 dX10_cell_102 ?_
              refine lv_topi (fun v15 ev15 => ?_)
              replace hf := rdK_n ev15 hf
              cases hf
              exact r_iret C hP hS dX10_cell_103
            · replace hf := it_f c14 hf
              have nc2 := lv_neT (a := 0) c2 (by decide)
              have nc5 := lv_neT (a := 1) c5 (by decide)
              have nc8 := lv_neT (a := 2) c8 (by decide)
              have nc11 := lv_neT (a := 3) c11 (by decide)
              have nc14 := lv_neT (a := 4) c14 (by decide)
              refine lv_tableOut (tgt := 104) hx hb dX10_cell_27 (by omega) (by decide) ?_
              refine lv_iconst (v := (-1)) hx hb dX10_cell_104 (by decide) ?_
              cases hf
              exact r_iret C hP hS dX10_cell_105
  · replace hf := it_t c1 hf
    refine lv_iconst (v := (-1)) hx hb dX10_cell_23 (by decide) ?_
    cases hf
    exact r_iret C hP hS dX10_cell_24
def fX10_load (σ : St) (a0 : Int32) (a1 : Int32) (a2 : Int32) (a3 : Int32) : Option (Int32 × St) :=
(if (fX10_heapCell a0 a1 0) = (-1) then
some (0, σ)
else
(if (fX10_holdCell a2 a3 0) = (-1) then
some (0, σ)
else
(if (σ 10 3) = 0 then
(cb (fX8_moveTopL σ ((fX10_heapCell a0 a1 0) / 4) ((fX10_holdCell a2 a3 0) / 6)) fun r4 σ6 =>
(zb r4 (some (r4, σ6))))
else
some (0, σ))))
set_option maxHeartbeats 4000000 in
theorem c_fX10_load {E : Ev} {l : Launch} (hj : jW true E) (σ : St) (sz : Nat) (a0 : Int32) (a1 : Int32) (a2 : Int32) (a3 : Int32) {rr : Int32} {sr : St} (hf : fX10_load σ a0 a1 a2 a3 = some (rr, sr)) : Met l yX10_load (Cond.code yX10_load cX10_load 7 (some .boolean) :: gT) (rmD 4) (va_Pc [.ref (ea E 0), .int a0, .int a1, .int a2, .int a3] (preW true E σ sz)) (QI true E rr sr sz) 0 0 (aW true E sz) := by
  refine r_entry (QI true E rr sr) hj (by decide) [.ref (ea E 0), .int a0, .int a1, .int a2, .int a3] (Nat.le_of_ble_eq_true rfl) (fun p e s m args below meth c C => ?_)
  intro H locs ls hP hS hl
  have hl : lv_has ls 7 [(0, .ref (ea E 0)), (1, .int a0), (2, .int a1), (3, .int a2), (4, .int a3)] := hl
  obtain ⟨hx, hb, hr, hml, hown, hts, hlocks, hK, hX, hj⟩ := id C
  unfold fX10_load at hf
  refine lv_iload_n hx hb dX10_load_0 rfl (lv_at hl 1 rfl) ?_
  refine lv_iload_n hx hb dX10_load_1 rfl (lv_at hl 2 rfl) ?_
  refine lv_iconst (v := 0) hx hb dX10_load_2 (by decide) ?_
  refine r_cSi (n := 3) (As := [.int a0, .int a1, .int 0]) (rest := []) C (c_fX10_heapCell hj σ H.size a0 a1 0) gs_RX10_96 (by decide +kernel) (rmD_le (by decide) (by decide)) rfl rfl (Nat.le_of_ble_eq_true rfl) dX10_load_3 hP hS hl.1 (fun H locs hP hS => ?_)
  refine lv_istore (lv' := [(5, .int (fX10_heapCell a0 a1 0)), (0, .ref (ea E 0)), (1, .int a0), (2, .int a1), (3, .int a2), (4, .int a3)]) hx hb dX10_load_6 hl (by decide) rfl (fun ls hl => ?_)
  refine lv_iload_n hx hb dX10_load_8 rfl (lv_at hl 4 rfl) ?_
  refine lv_iload hx hb dX10_load_9 (lv_at hl 5 rfl) ?_
  refine lv_iconst (v := 0) hx hb dX10_load_11 (by decide) ?_
  refine r_cSi (n := 3) (As := [.int a2, .int a3, .int 0]) (rest := []) C (c_fX10_holdCell hj σ H.size a2 a3 0) gs_RX10_190 (by decide +kernel) (rmD_le (by decide) (by decide)) rfl rfl (Nat.le_of_ble_eq_true rfl) dX10_load_12 hP hS hl.1 (fun H locs hP hS => ?_)
  refine lv_istore (lv' := [(6, .int (fX10_holdCell a2 a3 0)), (5, .int (fX10_heapCell a0 a1 0)), (0, .ref (ea E 0)), (1, .int a0), (2, .int a1), (3, .int a2), (4, .int a3)]) hx hb dX10_load_15 hl (by decide) rfl (fun ls hl => ?_)
  refine lv_iload hx hb dX10_load_17 (lv_at hl 1 rfl) ?_
  refine lv_iconst (v := (-1)) hx hb dX10_load_19 (by decide) ?_
  refine lv_icmp_eq (tgt := 39) hx hb dX10_load_20 (by decide) (fun c1 => ?_) (fun c1 => ?_)
  · replace hf := it_t c1 hf
    refine lv_iconst (v := 0) hx hb dX10_load_39 (by decide) ?_
    cases hf
    exact r_zret C rfl hP hS dX10_load_40
  · replace hf := it_f c1 hf
    refine lv_iload hx hb dX10_load_23 (lv_at hl 0 rfl) ?_
    refine lv_iconst (v := (-1)) hx hb dX10_load_25 (by decide) ?_
    refine lv_icmp_eq (tgt := 39) hx hb dX10_load_26 (by decide) (fun c2 => ?_) (fun c2 => ?_)
    · replace hf := it_t c2 hf
      refine lv_iconst (v := 0) hx hb dX10_load_39 (by decide) ?_
      cases hf
      exact r_zret C rfl hP hS dX10_load_40
    · replace hf := it_f c2 hf
      refine lv_aload_n hx hb dX10_load_29 rfl (lv_at hl 2 rfl) ?_
      refine r_get (k := 2) (v := .ref (ea E 10)) C hP oC_0 rfl iX10 (by decide) wm_t296 rfl rfl dX10_load_30 ?_
      refine r_get (k := 3) (v := .int (σ 10 3)) C hP (oV fV_10) rfl iX5 (by decide) wm_t99 rfl rfl dX10_load_33 ?_
      refine lv_if_eq (tgt := 41) hx hb dX10_load_36 (by decide) (fun c3 => ?_) (fun c3 => ?_)
      · replace hf := it_t c3 hf
        refine lv_aload_n hx hb dX10_load_41 rfl (lv_at hl 2 rfl) ?_
        refine r_get (k := 1) (v := .ref (ea E 5)) C hP oC_0 rfl iX10 (by decide) wm_t295 rfl rfl dX10_load_42 ?_
        refine lv_iload hx hb dX10_load_45 (lv_at hl 1 rfl) ?_
        refine lv_iconst (v := 4) hx hb dX10_load_47 (by decide) ?_
        refine lv_idiv hx hb dX10_load_48 (by decide) ?_
        refine lv_aload_n hx hb dX10_load_49 rfl (lv_at hl 2 rfl) ?_
        refine r_get (k := 2) (v := .ref (ea E 10)) C hP oC_0 rfl iX10 (by decide) wm_t296 rfl rfl dX10_load_50 ?_
        refine r_get (k := 0) (v := .ref (ea E (10 + 2))) C hP (oV fV_10) rfl iX5 (by decide) wm_t95 rfl rfl dX10_load_53 ?_
        refine lv_iload hx hb dX10_load_56 (lv_at hl 0 rfl) ?_
        refine lv_bipush (v := 6) hx hb dX10_load_58 (by decide) ?_
        refine lv_idiv hx hb dX10_load_60 (by decide) ?_
        obtain ⟨r4, σ6, hc5, hf⟩ := cb_e hf
        refine r_cVi (n := 3) (As := [.int ((fX10_heapCell a0 a1 0) / 4), .ref (ea E (10 + 2)), .int ((fX10_holdCell a2 a3 0) / 6)]) (rest := []) C (c_fX8_moveTopL hj σ H.size ((fX10_heapCell a0 a1 0) / 4) ((fX10_holdCell a2 a3 0) / 6) hc5) (oS fS_5) rfl gv_RX10_199 (by decide +kernel) (rmD_le (by decide) (by decide)) rfl rfl (Nat.le_of_ble_eq_true rfl) dX10_load_61 hP hS hl.1 (fun H locs hP hS => ?_)
        obtain ⟨hz, hf⟩ := zb_e hf
        cases hf
        exact r_zret C (zb_nar hz) hP hS dX10_load_64
      · replace hf := it_f c3 hf
        refine lv_iconst (v := 0) hx hb dX10_load_39 (by decide) ?_
        cases hf
        exact r_zret C rfl hP hS dX10_load_40
def fX10_arm (σ : St) (a0 : Int32) (a1 : Int32) : Option (Int32 × St) :=
(cb (fX5_tellArm 10 σ a0 a1) fun r1 σ3 =>
(zb r1 (some (r1, σ3))))
set_option maxHeartbeats 4000000 in
theorem c_fX10_arm {E : Ev} {l : Launch} (hj : jW true E) (σ : St) (sz : Nat) (a0 : Int32) (a1 : Int32) {rr : Int32} {sr : St} (hf : fX10_arm σ a0 a1 = some (rr, sr)) : Met l yX10_arm (Cond.code yX10_arm cX10_arm 3 (some .boolean) :: gT) (rmD 3) (va_Pc [.ref (ea E 0), .int a0, .int a1] (preW true E σ sz)) (QI true E rr sr sz) 0 0 (aW true E sz) := by
  refine r_entry (QI true E rr sr) hj (by decide) [.ref (ea E 0), .int a0, .int a1] (Nat.le_of_ble_eq_true rfl) (fun p e s m args below meth c C => ?_)
  intro H locs ls hP hS hl
  have hl : lv_has ls 3 [(0, .ref (ea E 0)), (1, .int a0), (2, .int a1)] := hl
  obtain ⟨hx, hb, hr, hml, hown, hts, hlocks, hK, hX, hj⟩ := id C
  unfold fX10_arm at hf
  refine lv_aload_n hx hb dX10_arm_0 rfl (lv_at hl 0 rfl) ?_
  refine r_get (k := 2) (v := .ref (ea E 10)) C hP oC_0 rfl iX10 (by decide) wm_t296 rfl rfl dX10_arm_1 ?_
  refine lv_iload_n hx hb dX10_arm_4 rfl (lv_at hl 1 rfl) ?_
  refine lv_iload_n hx hb dX10_arm_5 rfl (lv_at hl 2 rfl) ?_
  obtain ⟨r1, σ3, hc2, hf⟩ := cb_e hf
  refine r_cVi (n := 2) (As := [.int a0, .int a1]) (rest := []) C (c_fX5_tellArm fV_10 hj σ H.size a0 a1 hc2) (oV fV_10) rfl gv_RX10_203 (by decide +kernel) (rmD_le (by decide) (by decide)) rfl rfl (Nat.le_of_ble_eq_true rfl) dX10_arm_6 hP hS hl.1 (fun H locs hP hS => ?_)
  obtain ⟨hz, hf⟩ := zb_e hf
  cases hf
  exact r_zret C (zb_nar hz) hP hS dX10_arm_9
def fX10_ship (σ : St) (a0 : Int32) : Option Int32 :=
(if a0 = 0 then
some (σ 0 12)
else
(if a0 = 1 then
(if (σ 10 3) = 0 then
some 0
else
some 1)
else
(if a0 = 2 then
(cq (fX5_moment 10 σ) fun r5 =>
some r5)
else
(if a0 = 3 then
(cq (fX5_weight 10 σ) fun r8 =>
some r8)
else
(if a0 = 4 then
some (σ 10 5)
else
(if a0 = 5 then
some (σ 10 6)
else
(if a0 = 6 then
some (σ (10 + 2) 7)
else
(if a0 = 7 then
some (σ 5 7)
else
(if a0 = 8 then
(cq (fX8_cellsWithOre (10 + 2) σ) fun r15 =>
some r15)
else
(if a0 = 9 then
(cq (fX8_cellsOfSoup (10 + 2) σ) fun r18 =>
some r18)
else
(if a0 = 10 then
some (σ 28 1)
else
some (-1000000))))))))))))
set_option maxHeartbeats 4000000 in
theorem c_fX10_ship {E : Ev} {l : Launch} (hj : jW true E) (σ : St) (sz : Nat) (a0 : Int32) {rr : Int32} (hf : fX10_ship σ a0 = some rr) : Met l yX10_ship (Cond.code yX10_ship cX10_ship 2 (some .int) :: gT) (rmD 3) (va_Pc [.ref (ea E 0), .int a0] (preW true E σ sz)) (QI true E rr σ sz) 0 0 (aW true E sz) := by
  refine r_entry (QI true E rr σ) hj (by decide) [.ref (ea E 0), .int a0] (Nat.le_of_ble_eq_true rfl) (fun p e s m args below meth c C => ?_)
  intro H locs ls hP hS hl
  have hl : lv_has ls 2 [(0, .ref (ea E 0)), (1, .int a0)] := hl
  obtain ⟨hx, hb, hr, hml, hown, hts, hlocks, hK, hX, hj⟩ := id C
  unfold fX10_ship at hf
  refine lv_iload_n hx hb dX10_ship_0 rfl (lv_at hl 1 rfl) ?_
  by_cases c1 : a0 = 0
  · replace hf := it_t c1 hf
    refine lv_tableIn (tgt := 60) hx hb dX10_ship_1 (by rw [c1]; decide) (by rw [c1]; decide) (by rw [c1]; rfl) (by decide) ?_
    refine lv_aload_n hx hb dX10_ship_60 rfl (lv_at hl 0 rfl) ?_
    refine r_get (k := 12) (v := .int (σ 0 12)) C hP oC_0 rfl iX10 (by decide) wm_t306 rfl rfl dX10_ship_61 ?_
    cases hf
    exact r_iret C hP hS dX10_ship_64
  · replace hf := it_f c1 hf
    by_cases c2 : a0 = 1
    · replace hf := it_t c2 hf
      refine lv_tableIn (tgt := 65) hx hb dX10_ship_1 (by rw [c2]; decide) (by rw [c2]; decide) (by rw [c2]; rfl) (by decide) ?_
      refine lv_aload_n hx hb dX10_ship_65 rfl (lv_at hl 0 rfl) ?_
      refine r_get (k := 2) (v := .ref (ea E 10)) C hP oC_0 rfl iX10 (by decide) wm_t296 rfl rfl dX10_ship_66 ?_
      refine r_get (k := 3) (v := .int (σ 10 3)) C hP (oV fV_10) rfl iX5 (by decide) wm_t99 rfl rfl dX10_ship_69 ?_
      refine lv_if_eq (tgt := 79) hx hb dX10_ship_72 (by decide) (fun c3 => ?_) (fun c3 => ?_)
      · replace hf := it_t c3 hf
        refine lv_iconst (v := 0) hx hb dX10_ship_79 (by decide) ?_
        cases hf
        exact r_iret C hP hS dX10_ship_80
      · replace hf := it_f c3 hf
        refine lv_iconst (v := 1) hx hb dX10_ship_75 (by decide) ?_
        refine lv_goto (tgt := 80) hx hb dX10_ship_76 (by decide) ?_
        cases hf
        exact r_iret C hP hS dX10_ship_80
    · replace hf := it_f c2 hf
      by_cases c4 : a0 = 2
      · replace hf := it_t c4 hf
        refine lv_tableIn (tgt := 81) hx hb dX10_ship_1 (by rw [c4]; decide) (by rw [c4]; decide) (by rw [c4]; rfl) (by decide) ?_
        refine lv_aload_n hx hb dX10_ship_81 rfl (lv_at hl 0 rfl) ?_
        refine r_get (k := 2) (v := .ref (ea E 10)) C hP oC_0 rfl iX10 (by decide) wm_t296 rfl rfl dX10_ship_82 ?_
        obtain ⟨r5, hc6, hf⟩ := cq_e hf
        refine r_cVi (n := 0) (As := []) (rest := []) C (c_fX5_moment fV_10 hj σ H.size hc6) (oV fV_10) rfl gv_RX10_209 (by decide +kernel) (rmD_le (by decide) (by decide)) rfl rfl (Nat.le_of_ble_eq_true rfl) dX10_ship_85 hP hS hl.1 (fun H locs hP hS => ?_)
        cases hf
        exact r_iret C hP hS dX10_ship_88
      · replace hf := it_f c4 hf
        by_cases c7 : a0 = 3
        · replace hf := it_t c7 hf
          refine lv_tableIn (tgt := 89) hx hb dX10_ship_1 (by rw [c7]; decide) (by rw [c7]; decide) (by rw [c7]; rfl) (by decide) ?_
          refine lv_aload_n hx hb dX10_ship_89 rfl (lv_at hl 0 rfl) ?_
          refine r_get (k := 2) (v := .ref (ea E 10)) C hP oC_0 rfl iX10 (by decide) wm_t296 rfl rfl dX10_ship_90 ?_
          obtain ⟨r8, hc9, hf⟩ := cq_e hf
          refine r_cVi (n := 0) (As := []) (rest := []) C (c_fX5_weight fV_10 hj σ H.size hc9) (oV fV_10) rfl gv_RX10_213 (by decide +kernel) (rmD_le (by decide) (by decide)) rfl rfl (Nat.le_of_ble_eq_true rfl) dX10_ship_93 hP hS hl.1 (fun H locs hP hS => ?_)
          cases hf
          exact r_iret C hP hS dX10_ship_96
        · replace hf := it_f c7 hf
          by_cases c10 : a0 = 4
          · replace hf := it_t c10 hf
            refine lv_tableIn (tgt := 97) hx hb dX10_ship_1 (by rw [c10]; decide) (by rw [c10]; decide) (by rw [c10]; rfl) (by decide) ?_
            refine lv_aload_n hx hb dX10_ship_97 rfl (lv_at hl 0 rfl) ?_
            refine r_get (k := 2) (v := .ref (ea E 10)) C hP oC_0 rfl iX10 (by decide) wm_t296 rfl rfl dX10_ship_98 ?_
            refine r_get (k := 5) (v := .int (σ 10 5)) C hP (oV fV_10) rfl iX5 (by decide) wm_t103 rfl rfl dX10_ship_101 ?_
            cases hf
            exact r_iret C hP hS dX10_ship_104
          · replace hf := it_f c10 hf
            by_cases c11 : a0 = 5
            · replace hf := it_t c11 hf
              refine lv_tableIn (tgt := 105) hx hb dX10_ship_1 (by rw [c11]; decide) (by rw [c11]; decide) (by rw [c11]; rfl) (by decide) ?_
              refine lv_aload_n hx hb dX10_ship_105 rfl (lv_at hl 0 rfl) ?_
              refine r_get (k := 2) (v := .ref (ea E 10)) C hP oC_0 rfl iX10 (by decide) wm_t296 rfl rfl dX10_ship_106 ?_
              refine r_get (k := 6) (v := .int (σ 10 6)) C hP (oV fV_10) rfl iX5 (by decide) wm_t105 rfl rfl dX10_ship_109 ?_
              cases hf
              exact r_iret C hP hS dX10_ship_112
            · replace hf := it_f c11 hf
              by_cases c12 : a0 = 6
              · replace hf := it_t c12 hf
                refine lv_tableIn (tgt := 113) hx hb dX10_ship_1 (by rw [c12]; decide) (by rw [c12]; decide) (by rw [c12]; rfl) (by decide) ?_
                refine lv_aload_n hx hb dX10_ship_113 rfl (lv_at hl 0 rfl) ?_
                refine r_get (k := 2) (v := .ref (ea E 10)) C hP oC_0 rfl iX10 (by decide) wm_t296 rfl rfl dX10_ship_114 ?_
                refine r_get (k := 0) (v := .ref (ea E (10 + 2))) C hP (oV fV_10) rfl iX5 (by decide) wm_t95 rfl rfl dX10_ship_117 ?_
                refine r_get (k := 7) (v := .int (σ (10 + 2) 7)) C hP (oS (fV_S fV_10)) rfl iX8 (by decide) wm_t68 rfl rfl dX10_ship_120 ?_
                cases hf
                exact r_iret C hP hS dX10_ship_123
              · replace hf := it_f c12 hf
                by_cases c13 : a0 = 7
                · replace hf := it_t c13 hf
                  refine lv_tableIn (tgt := 124) hx hb dX10_ship_1 (by rw [c13]; decide) (by rw [c13]; decide) (by rw [c13]; rfl) (by decide) ?_
                  refine lv_aload_n hx hb dX10_ship_124 rfl (lv_at hl 0 rfl) ?_
                  refine r_get (k := 1) (v := .ref (ea E 5)) C hP oC_0 rfl iX10 (by decide) wm_t295 rfl rfl dX10_ship_125 ?_
                  refine r_get (k := 7) (v := .int (σ 5 7)) C hP (oS fS_5) rfl iX8 (by decide) wm_t68 rfl rfl dX10_ship_128 ?_
                  cases hf
                  exact r_iret C hP hS dX10_ship_131
                · replace hf := it_f c13 hf
                  by_cases c14 : a0 = 8
                  · replace hf := it_t c14 hf
                    refine lv_tableIn (tgt := 132) hx hb dX10_ship_1 (by rw [c14]; decide) (by rw [c14]; decide) (by rw [c14]; rfl) (by decide) ?_
                    refine lv_aload_n hx hb dX10_ship_132 rfl (lv_at hl 0 rfl) ?_
                    refine r_get (k := 2) (v := .ref (ea E 10)) C hP oC_0 rfl iX10 (by decide) wm_t296 rfl rfl dX10_ship_133 ?_
                    refine r_get (k := 0) (v := .ref (ea E (10 + 2))) C hP (oV fV_10) rfl iX5 (by decide) wm_t95 rfl rfl dX10_ship_136 ?_
                    obtain ⟨r15, hc16, hf⟩ := cq_e hf
                    refine r_cVi (n := 0) (As := []) (rest := []) C (c_fX8_cellsWithOre (fV_S fV_10) hj σ H.size hc16) (oS (fV_S fV_10)) rfl gv_RX10_225 (by decide +kernel) (rmD_le (by decide) (by decide)) rfl rfl (Nat.le_of_ble_eq_true rfl) dX10_ship_139 hP hS hl.1 (fun H locs hP hS => ?_)
                    cases hf
                    exact r_iret C hP hS dX10_ship_142
                  · replace hf := it_f c14 hf
                    by_cases c17 : a0 = 9
                    · replace hf := it_t c17 hf
                      refine lv_tableIn (tgt := 143) hx hb dX10_ship_1 (by rw [c17]; decide) (by rw [c17]; decide) (by rw [c17]; rfl) (by decide) ?_
                      refine lv_aload_n hx hb dX10_ship_143 rfl (lv_at hl 0 rfl) ?_
                      refine r_get (k := 2) (v := .ref (ea E 10)) C hP oC_0 rfl iX10 (by decide) wm_t296 rfl rfl dX10_ship_144 ?_
                      refine r_get (k := 0) (v := .ref (ea E (10 + 2))) C hP (oV fV_10) rfl iX5 (by decide) wm_t95 rfl rfl dX10_ship_147 ?_
                      obtain ⟨r18, hc19, hf⟩ := cq_e hf
                      refine r_cVi (n := 0) (As := []) (rest := []) C (c_fX8_cellsOfSoup (fV_S fV_10) hj σ H.size hc19) (oS (fV_S fV_10)) rfl gv_RX10_228 (by decide +kernel) (rmD_le (by decide) (by decide)) rfl rfl (Nat.le_of_ble_eq_true rfl) dX10_ship_150 hP hS hl.1 (fun H locs hP hS => ?_)
                      cases hf
                      exact r_iret C hP hS dX10_ship_153
                    · replace hf := it_f c17 hf
                      by_cases c20 : a0 = 10
                      · replace hf := it_t c20 hf
                        refine lv_tableIn (tgt := 154) hx hb dX10_ship_1 (by rw [c20]; decide) (by rw [c20]; decide) (by rw [c20]; rfl) (by decide) ?_
                        refine lv_aload_n hx hb dX10_ship_154 rfl (lv_at hl 0 rfl) ?_
                        refine r_get (k := 5) (v := .ref (ea E 28)) C hP oC_0 rfl iX10 (by decide) wm_t299 rfl rfl dX10_ship_155 ?_
                        refine r_get (k := 1) (v := .int (σ 28 1)) C hP oC_28 rfl iX2 (by decide) wm_t206 rfl rfl dX10_ship_158 ?_
                        cases hf
                        exact r_iret C hP hS dX10_ship_161
                      · replace hf := it_f c20 hf
                        have nc1 := lv_neT (a := 0) c1 (by decide)
                        have nc2 := lv_neT (a := 1) c2 (by decide)
                        have nc4 := lv_neT (a := 2) c4 (by decide)
                        have nc7 := lv_neT (a := 3) c7 (by decide)
                        have nc10 := lv_neT (a := 4) c10 (by decide)
                        have nc11 := lv_neT (a := 5) c11 (by decide)
                        have nc12 := lv_neT (a := 6) c12 (by decide)
                        have nc13 := lv_neT (a := 7) c13 (by decide)
                        have nc14 := lv_neT (a := 8) c14 (by decide)
                        have nc17 := lv_neT (a := 9) c17 (by decide)
                        have nc20 := lv_neT (a := 10) c20 (by decide)
                        refine lv_tableOut (tgt := 162) hx hb dX10_ship_1 (by omega) (by decide) ?_
                        refine lv_ldc (v := (-1000000)) hx hb hown (hts _ wm_t803) dX10_ship_162 ?_
                        cases hf
                        exact r_iret C hP hS dX10_ship_164
def fX10_arms (σ : St) (a0 : Int32) : Option Int32 :=
(if (fX10_within a0 61) = 0 then
some (-1)
else
(cq (fX5_armTenths 10 σ a0) fun r2 =>
some r2))
set_option maxHeartbeats 4000000 in
theorem c_fX10_arms {E : Ev} {l : Launch} (hj : jW true E) (σ : St) (sz : Nat) (a0 : Int32) {rr : Int32} (hf : fX10_arms σ a0 = some rr) : Met l yX10_arms (Cond.code yX10_arms cX10_arms 2 (some .int) :: gT) (rmD 3) (va_Pc [.ref (ea E 0), .int a0] (preW true E σ sz)) (QI true E rr σ sz) 0 0 (aW true E sz) := by
  refine r_entry (QI true E rr σ) hj (by decide) [.ref (ea E 0), .int a0] (Nat.le_of_ble_eq_true rfl) (fun p e s m args below meth c C => ?_)
  intro H locs ls hP hS hl
  have hl : lv_has ls 2 [(0, .ref (ea E 0)), (1, .int a0)] := hl
  obtain ⟨hx, hb, hr, hml, hown, hts, hlocks, hK, hX, hj⟩ := id C
  unfold fX10_arms at hf
  refine lv_iload_n hx hb dX10_arms_0 rfl (lv_at hl 1 rfl) ?_
  refine lv_bipush (v := 61) hx hb dX10_arms_1 (by decide) ?_
  refine r_cSi (n := 2) (As := [.int a0, .int 61]) (rest := []) C (c_fX10_within hj σ H.size a0 61) gs_RX10_85 (by decide +kernel) (rmD_le (by decide) (by decide)) rfl rfl (Nat.le_of_ble_eq_true rfl) dX10_arms_3 hP hS hl.1 (fun H locs hP hS => ?_)
  refine lv_if_eq (tgt := 20) hx hb dX10_arms_6 (by decide) (fun c1 => ?_) (fun c1 => ?_)
  · replace hf := it_t c1 hf
    refine lv_iconst (v := (-1)) hx hb dX10_arms_20 (by decide) ?_
    cases hf
    exact r_iret C hP hS dX10_arms_21
  · replace hf := it_f c1 hf
    refine lv_aload_n hx hb dX10_arms_9 rfl (lv_at hl 0 rfl) ?_
    refine r_get (k := 2) (v := .ref (ea E 10)) C hP oC_0 rfl iX10 (by decide) wm_t296 rfl rfl dX10_arms_10 ?_
    refine lv_iload_n hx hb dX10_arms_13 rfl (lv_at hl 1 rfl) ?_
    obtain ⟨r2, hc3, hf⟩ := cq_e hf
    refine r_cVi (n := 1) (As := [.int a0]) (rest := []) C (c_fX5_armTenths fV_10 hj σ H.size a0 hc3) (oV fV_10) rfl gv_RX10_232 (by decide +kernel) (rmD_le (by decide) (by decide)) rfl rfl (Nat.le_of_ble_eq_true rfl) dX10_arms_14 hP hS hl.1 (fun H locs hP hS => ?_)
    refine lv_goto (tgt := 21) hx hb dX10_arms_17 (by decide) ?_
    cases hf
    exact r_iret C hP hS dX10_arms_21
def fX10_split_82B (rec42 : Int32 → Int32 → Int32 → Int32 → Int32 → Int32 → Option Int32) (rec82 : Int32 → Int32 → Int32 → Int32 → Int32 → Int32 → Int32 → Int32 → Int32 → Option Int32) (x1 : Int32) (x2 : Int32) (x3 : Int32) (x4 : Int32) (x5 : Int32) (x6 : Int32) (x7 : Int32) (x8 : Int32) (x9 : Int32) : Option Int32 :=
(if x8 < x9 then
rec42 x1 x2 x3 x4 x5 (x6 + 1)
else
(if 36 < x9 then
rec42 x1 x2 x3 x4 x5 (x6 + 1)
else
(if x3 ≤ x7 then
rec42 x1 x2 x3 x4 x5 (x6 + 1)
else
(nm ((x7 + (fX10_worstOf x9)) + (fX10_worstOf (x8 - x9))) fun v4 =>
(if x3 ≤ v4 then
rec82 x1 x2 x3 x4 x5 x6 x7 x8 (x9 + 1)
else
(nm (((((((x5 * 64) + x6) * 64) + x9) * 64) + x8) - x9) fun v6 =>
rec82 x1 x2 v4 v6 x5 x6 x7 x8 (x9 + 1)))))))
set_option maxHeartbeats 4000000 in
theorem b_fX10_split_82B {E : Ev} {l : Launch} {p : Program} {e : Env} {s : State} {m : MethodId} {args : Array Value} {below : List Frame} {meth : Method} {c : Code} (σ : St) (C : CX true E RX10 cX10_split 11 (some .int) p s m args meth c) {rr : Int32} (rec42 : Int32 → Int32 → Int32 → Int32 → Int32 → Int32 → Option Int32) (hr42 : ∀  (x1 : Int32) (x2 : Int32) (x3 : Int32) (x4 : Int32) (x5 : Int32) (x6 : Int32), rec42 x1 x2 x3 x4 x5 x6 = some rr → GW true l (rmD 3) E 11 p e s m args below meth c (MQ below (QI true E rr σ s.heap.size) args s 0 0 (aW true E s.heap.size)) σ 42 [(1, .int x1), (2, .int x2), (3, .int x3), (4, .int x4), (5, .int x5), (6, .int x6)] []) (rec82 : Int32 → Int32 → Int32 → Int32 → Int32 → Int32 → Int32 → Int32 → Int32 → Option Int32) (hr82 : ∀  (x1 : Int32) (x2 : Int32) (x3 : Int32) (x4 : Int32) (x5 : Int32) (x6 : Int32) (x7 : Int32) (x8 : Int32) (x9 : Int32), rec82 x1 x2 x3 x4 x5 x6 x7 x8 x9 = some rr → GW true l (rmD 3) E 11 p e s m args below meth c (MQ below (QI true E rr σ s.heap.size) args s 0 0 (aW true E s.heap.size)) σ 82 [(1, .int x1), (2, .int x2), (3, .int x3), (4, .int x4), (5, .int x5), (6, .int x6), (7, .int x7), (8, .int x8), (9, .int x9)] []) : ∀  (x1 : Int32) (x2 : Int32) (x3 : Int32) (x4 : Int32) (x5 : Int32) (x6 : Int32) (x7 : Int32) (x8 : Int32) (x9 : Int32), fX10_split_82B rec42 rec82 x1 x2 x3 x4 x5 x6 x7 x8 x9 = some rr → GW true l (rmD 3) E 11 p e s m args below meth c (MQ below (QI true E rr σ s.heap.size) args s 0 0 (aW true E s.heap.size)) σ 82 [(1, .int x1), (2, .int x2), (3, .int x3), (4, .int x4), (5, .int x5), (6, .int x6), (7, .int x7), (8, .int x8), (9, .int x9)] [] := by
  intro x1 x2 x3 x4 x5 x6 x7 x8 x9 hf H locs ls hP hS hl
  obtain ⟨hx, hb, hr, hml, hown, hts, hlocks, hK, hX, hj⟩ := id C
  unfold fX10_split_82B at hf
  refine lv_iload hx hb dX10_split_82 (lv_at hl 8 rfl) ?_
  refine lv_iload hx hb dX10_split_84 (lv_at hl 7 rfl) ?_
  refine lv_icmp_gt (tgt := 161) hx hb dX10_split_86 (by decide) (fun c1 => ?_) (fun c1 => ?_)
  · replace hf := it_t c1 hf
    refine lv_iinc (v := (x6 + 1)) (lv' := [(6, .int (x6 + 1)), (1, .int x1), (2, .int x2), (3, .int x3), (4, .int x4), (5, .int x5), (7, .int x7), (8, .int x8), (9, .int x9)]) hx hb dX10_split_161 hl (k := 5) rfl rfl (by decide) rfl (fun ls hl => ?_)
    refine lv_goto (tgt := 42) hx hb dX10_split_164 (by decide) ?_
    exact hr42 x1 x2 x3 x4 x5 (x6 + 1) hf H locs ls hP hS (lv_sub hl [1, 2, 3, 4, 5, 0] rfl)
  · replace hf := it_f c1 hf
    refine lv_iload hx hb dX10_split_89 (lv_at hl 8 rfl) ?_
    refine lv_bipush (v := 36) hx hb dX10_split_91 (by decide) ?_
    refine lv_icmp_gt (tgt := 161) hx hb dX10_split_93 (by decide) (fun c2 => ?_) (fun c2 => ?_)
    · replace hf := it_t c2 hf
      refine lv_iinc (v := (x6 + 1)) (lv' := [(6, .int (x6 + 1)), (1, .int x1), (2, .int x2), (3, .int x3), (4, .int x4), (5, .int x5), (7, .int x7), (8, .int x8), (9, .int x9)]) hx hb dX10_split_161 hl (k := 5) rfl rfl (by decide) rfl (fun ls hl => ?_)
      refine lv_goto (tgt := 42) hx hb dX10_split_164 (by decide) ?_
      exact hr42 x1 x2 x3 x4 x5 (x6 + 1) hf H locs ls hP hS (lv_sub hl [1, 2, 3, 4, 5, 0] rfl)
    · replace hf := it_f c2 hf
      refine lv_iload hx hb dX10_split_96 (lv_at hl 6 rfl) ?_
      refine lv_iload_n hx hb dX10_split_98 rfl (lv_at hl 2 rfl) ?_
      refine lv_icmp_ge (tgt := 161) hx hb dX10_split_99 (by decide) (fun c3 => ?_) (fun c3 => ?_)
      · replace hf := it_t c3 hf
        refine lv_iinc (v := (x6 + 1)) (lv' := [(6, .int (x6 + 1)), (1, .int x1), (2, .int x2), (3, .int x3), (4, .int x4), (5, .int x5), (7, .int x7), (8, .int x8), (9, .int x9)]) hx hb dX10_split_161 hl (k := 5) rfl rfl (by decide) rfl (fun ls hl => ?_)
        refine lv_goto (tgt := 42) hx hb dX10_split_164 (by decide) ?_
        exact hr42 x1 x2 x3 x4 x5 (x6 + 1) hf H locs ls hP hS (lv_sub hl [1, 2, 3, 4, 5, 0] rfl)
      · replace hf := it_f c3 hf
        refine lv_iload hx hb dX10_split_102 (lv_at hl 6 rfl) ?_
        refine lv_iload hx hb dX10_split_104 (lv_at hl 8 rfl) ?_
        refine r_cSi (n := 1) (As := [.int x9]) (rest := [.int x7]) C (c_fX10_worstOf hj σ H.size x9) gs_RX10_239 (by decide +kernel) (rmD_le (by decide) (by decide)) rfl rfl (Nat.le_of_ble_eq_true rfl) dX10_split_106 hP hS hl.1 (fun H locs hP hS => ?_)
        refine lv_iadd hx hb dX10_split_109 ?_
        refine lv_iload hx hb dX10_split_110 (lv_at hl 7 rfl) ?_
        refine lv_iload hx hb dX10_split_112 (lv_at hl 8 rfl) ?_
        refine lv_isub hx hb dX10_split_114 ?_
        refine r_cSi (n := 1) (As := [.int (x8 - x9)]) (rest := [.int (x7 + (fX10_worstOf x9))]) C (c_fX10_worstOf hj σ H.size (x8 - x9)) gs_RX10_239 (by decide +kernel) (rmD_le (by decide) (by decide)) rfl rfl (Nat.le_of_ble_eq_true rfl) dX10_split_115 hP hS hl.1 (fun H locs hP hS => ?_)
        refine lv_iadd hx hb dX10_split_118 ?_
        refine lv_topi (fun v4 ev4 => ?_)
        replace hf := nm_i ev4 hf
        refine lv_istore (lv' := [(10, .int v4), (1, .int x1), (2, .int x2), (3, .int x3), (4, .int x4), (5, .int x5), (6, .int x6), (7, .int x7), (8, .int x8), (9, .int x9)]) hx hb dX10_split_119 hl (by decide) rfl (fun ls hl => ?_)
        refine lv_iload hx hb dX10_split_121 (lv_at hl 0 rfl) ?_
        refine lv_iload_n hx hb dX10_split_123 rfl (lv_at hl 3 rfl) ?_
        refine lv_icmp_ge (tgt := 155) hx hb dX10_split_124 (by decide) (fun c5 => ?_) (fun c5 => ?_)
        · replace hf := it_t c5 hf
          refine lv_iinc (v := (x9 + 1)) (lv' := [(9, .int (x9 + 1)), (10, .int v4), (1, .int x1), (2, .int x2), (3, .int x3), (4, .int x4), (5, .int x5), (6, .int x6), (7, .int x7), (8, .int x8)]) hx hb dX10_split_155 hl (k := 9) rfl rfl (by decide) rfl (fun ls hl => ?_)
          refine lv_goto (tgt := 82) hx hb dX10_split_158 (by decide) ?_
          exact hr82 x1 x2 x3 x4 x5 x6 x7 x8 (x9 + 1) hf H locs ls hP hS (lv_sub hl [2, 3, 4, 5, 6, 7, 8, 9, 0] rfl)
        · replace hf := it_f c5 hf
          refine lv_iload hx hb dX10_split_127 (lv_at hl 0 rfl) ?_
          refine lv_istore_n (lv' := [(3, .int v4), (10, .int v4), (1, .int x1), (2, .int x2), (4, .int x4), (5, .int x5), (6, .int x6), (7, .int x7), (8, .int x8), (9, .int x9)]) hx hb dX10_split_129 rfl hl (by decide) rfl (fun ls hl => ?_)
          refine lv_iload hx hb dX10_split_130 (lv_at hl 5 rfl) ?_
          refine lv_bipush (v := 64) hx hb dX10_split_132 (by decide) ?_
          refine lv_imul hx hb dX10_split_134 ?_
          refine lv_iload hx hb dX10_split_135 (lv_at hl 6 rfl) ?_
          refine lv_iadd hx hb dX10_split_137 ?_
          refine lv_bipush (v := 64) hx hb dX10_split_138 (by decide) ?_
          refine lv_imul hx hb dX10_split_140 ?_
          refine lv_iload hx hb dX10_split_141 (lv_at hl 9 rfl) ?_
          refine lv_iadd hx hb dX10_split_143 ?_
          refine lv_bipush (v := 64) hx hb dX10_split_144 (by decide) ?_
          refine lv_imul hx hb dX10_split_146 ?_
          refine lv_iload hx hb dX10_split_147 (lv_at hl 8 rfl) ?_
          refine lv_iadd hx hb dX10_split_149 ?_
          refine lv_iload hx hb dX10_split_150 (lv_at hl 9 rfl) ?_
          refine lv_isub hx hb dX10_split_152 ?_
          refine lv_topi (fun v6 ev6 => ?_)
          replace hf := nm_i ev6 hf
          refine lv_istore (lv' := [(4, .int v6), (3, .int v4), (10, .int v4), (1, .int x1), (2, .int x2), (5, .int x5), (6, .int x6), (7, .int x7), (8, .int x8), (9, .int x9)]) hx hb dX10_split_153 hl (by decide) rfl (fun ls hl => ?_)
          refine lv_iinc (v := (x9 + 1)) (lv' := [(9, .int (x9 + 1)), (4, .int v6), (3, .int v4), (10, .int v4), (1, .int x1), (2, .int x2), (5, .int x5), (6, .int x6), (7, .int x7), (8, .int x8)]) hx hb dX10_split_155 hl (k := 9) rfl rfl (by decide) rfl (fun ls hl => ?_)
          refine lv_goto (tgt := 82) hx hb dX10_split_158 (by decide) ?_
          exact hr82 x1 x2 v4 v6 x5 x6 x7 x8 (x9 + 1) hf H locs ls hP hS (lv_sub hl [4, 5, 2, 1, 6, 7, 8, 9, 0] rfl)
def fX10_split_82 (rec42 : Int32 → Int32 → Int32 → Int32 → Int32 → Int32 → Option Int32) : Nat → Int32 → Int32 → Int32 → Int32 → Int32 → Int32 → Int32 → Int32 → Int32 → Option Int32
  | 0 => fun _ _ _ _ _ _ _ _ _ => none
  | n + 1 => fun x1 x2 x3 x4 x5 x6 x7 x8 x9 => fX10_split_82B rec42 (fX10_split_82 rec42 n) x1 x2 x3 x4 x5 x6 x7 x8 x9
theorem b_fX10_split_82 {E : Ev} {l : Launch} {p : Program} {e : Env} {s : State} {m : MethodId} {args : Array Value} {below : List Frame} {meth : Method} {c : Code} (σ : St) (C : CX true E RX10 cX10_split 11 (some .int) p s m args meth c) {rr : Int32} (rec42 : Int32 → Int32 → Int32 → Int32 → Int32 → Int32 → Option Int32) (hr42 : ∀  (x1 : Int32) (x2 : Int32) (x3 : Int32) (x4 : Int32) (x5 : Int32) (x6 : Int32), rec42 x1 x2 x3 x4 x5 x6 = some rr → GW true l (rmD 3) E 11 p e s m args below meth c (MQ below (QI true E rr σ s.heap.size) args s 0 0 (aW true E s.heap.size)) σ 42 [(1, .int x1), (2, .int x2), (3, .int x3), (4, .int x4), (5, .int x5), (6, .int x6)] []) : ∀ (n : Nat) (x1 : Int32) (x2 : Int32) (x3 : Int32) (x4 : Int32) (x5 : Int32) (x6 : Int32) (x7 : Int32) (x8 : Int32) (x9 : Int32), fX10_split_82 rec42 n x1 x2 x3 x4 x5 x6 x7 x8 x9 = some rr → GW true l (rmD 3) E 11 p e s m args below meth c (MQ below (QI true E rr σ s.heap.size) args s 0 0 (aW true E s.heap.size)) σ 82 [(1, .int x1), (2, .int x2), (3, .int x3), (4, .int x4), (5, .int x5), (6, .int x6), (7, .int x7), (8, .int x8), (9, .int x9)] [] := by
  intro n
  induction n with
  | zero => intro x1 x2 x3 x4 x5 x6 x7 x8 x9 hf; have hf : (none : Option _) = some _ := hf; cases hf
  | succ n ih => intro x1 x2 x3 x4 x5 x6 x7 x8 x9 hf; exact b_fX10_split_82B σ C rec42 hr42 (fX10_split_82 rec42 n) ih x1 x2 x3 x4 x5 x6 x7 x8 x9 hf
def fX10_split_42B (rec32 : Int32 → Int32 → Int32 → Int32 → Int32 → Option Int32) (rec42 : Int32 → Int32 → Int32 → Int32 → Int32 → Int32 → Option Int32) (x1 : Int32) (x2 : Int32) (x3 : Int32) (x4 : Int32) (x5 : Int32) (x6 : Int32) : Option Int32 :=
(if 36 < x6 then
rec32 x1 x2 x3 x4 (x5 + 1)
else
(nm (if 0 < (((x1 - x5) - x6) - 36) then (((x1 - x5) - x6) - 36) else 0) fun v2 =>
fX10_split_82 rec42 FU x1 x2 x3 x4 x5 x6 ((fX10_worstOf x5) + (fX10_worstOf x6)) ((x1 - x5) - x6) v2))
set_option maxHeartbeats 4000000 in
theorem b_fX10_split_42B {E : Ev} {l : Launch} {p : Program} {e : Env} {s : State} {m : MethodId} {args : Array Value} {below : List Frame} {meth : Method} {c : Code} (σ : St) (C : CX true E RX10 cX10_split 11 (some .int) p s m args meth c) {rr : Int32} (rec32 : Int32 → Int32 → Int32 → Int32 → Int32 → Option Int32) (hr32 : ∀  (x1 : Int32) (x2 : Int32) (x3 : Int32) (x4 : Int32) (x5 : Int32), rec32 x1 x2 x3 x4 x5 = some rr → GW true l (rmD 3) E 11 p e s m args below meth c (MQ below (QI true E rr σ s.heap.size) args s 0 0 (aW true E s.heap.size)) σ 32 [(1, .int x1), (2, .int x2), (3, .int x3), (4, .int x4), (5, .int x5)] []) (rec42 : Int32 → Int32 → Int32 → Int32 → Int32 → Int32 → Option Int32) (hr42 : ∀  (x1 : Int32) (x2 : Int32) (x3 : Int32) (x4 : Int32) (x5 : Int32) (x6 : Int32), rec42 x1 x2 x3 x4 x5 x6 = some rr → GW true l (rmD 3) E 11 p e s m args below meth c (MQ below (QI true E rr σ s.heap.size) args s 0 0 (aW true E s.heap.size)) σ 42 [(1, .int x1), (2, .int x2), (3, .int x3), (4, .int x4), (5, .int x5), (6, .int x6)] []) : ∀  (x1 : Int32) (x2 : Int32) (x3 : Int32) (x4 : Int32) (x5 : Int32) (x6 : Int32), fX10_split_42B rec32 rec42 x1 x2 x3 x4 x5 x6 = some rr → GW true l (rmD 3) E 11 p e s m args below meth c (MQ below (QI true E rr σ s.heap.size) args s 0 0 (aW true E s.heap.size)) σ 42 [(1, .int x1), (2, .int x2), (3, .int x3), (4, .int x4), (5, .int x5), (6, .int x6)] [] := by
  intro x1 x2 x3 x4 x5 x6 hf H locs ls hP hS hl
  obtain ⟨hx, hb, hr, hml, hown, hts, hlocks, hK, hX, hj⟩ := id C
  unfold fX10_split_42B at hf
  refine lv_iload hx hb dX10_split_42 (lv_at hl 5 rfl) ?_
  refine lv_bipush (v := 36) hx hb dX10_split_44 (by decide) ?_
  refine lv_icmp_gt (tgt := 167) hx hb dX10_split_46 (by decide) (fun c1 => ?_) (fun c1 => ?_)
  · replace hf := it_t c1 hf
    refine lv_iinc (v := (x5 + 1)) (lv' := [(5, .int (x5 + 1)), (1, .int x1), (2, .int x2), (3, .int x3), (4, .int x4), (6, .int x6)]) hx hb dX10_split_167 hl (k := 4) rfl rfl (by decide) rfl (fun ls hl => ?_)
    refine lv_goto (tgt := 32) hx hb dX10_split_170 (by decide) ?_
    exact hr32 x1 x2 x3 x4 (x5 + 1) hf H locs ls hP hS (lv_sub hl [1, 2, 3, 4, 0] rfl)
  · replace hf := it_f c1 hf
    refine lv_iload hx hb dX10_split_49 (lv_at hl 4 rfl) ?_
    refine r_cSi (n := 1) (As := [.int x5]) (rest := []) C (c_fX10_worstOf hj σ H.size x5) gs_RX10_239 (by decide +kernel) (rmD_le (by decide) (by decide)) rfl rfl (Nat.le_of_ble_eq_true rfl) dX10_split_51 hP hS hl.1 (fun H locs hP hS => ?_)
    refine lv_iload hx hb dX10_split_54 (lv_at hl 5 rfl) ?_
    refine r_cSi (n := 1) (As := [.int x6]) (rest := [.int (fX10_worstOf x5)]) C (c_fX10_worstOf hj σ H.size x6) gs_RX10_239 (by decide +kernel) (rmD_le (by decide) (by decide)) rfl rfl (Nat.le_of_ble_eq_true rfl) dX10_split_56 hP hS hl.1 (fun H locs hP hS => ?_)
    refine lv_iadd hx hb dX10_split_59 ?_
    refine lv_istore (lv' := [(7, .int ((fX10_worstOf x5) + (fX10_worstOf x6))), (1, .int x1), (2, .int x2), (3, .int x3), (4, .int x4), (5, .int x5), (6, .int x6)]) hx hb dX10_split_60 hl (by decide) rfl (fun ls hl => ?_)
    refine lv_iload_n hx hb dX10_split_62 rfl (lv_at hl 1 rfl) ?_
    refine lv_iload hx hb dX10_split_63 (lv_at hl 5 rfl) ?_
    refine lv_isub hx hb dX10_split_65 ?_
    refine lv_iload hx hb dX10_split_66 (lv_at hl 6 rfl) ?_
    refine lv_isub hx hb dX10_split_68 ?_
    refine lv_istore (lv' := [(8, .int ((x1 - x5) - x6)), (7, .int ((fX10_worstOf x5) + (fX10_worstOf x6))), (1, .int x1), (2, .int x2), (3, .int x3), (4, .int x4), (5, .int x5), (6, .int x6)]) hx hb dX10_split_69 hl (by decide) rfl (fun ls hl => ?_)
    refine lv_iconst (v := 0) hx hb dX10_split_71 (by decide) ?_
    refine lv_iload hx hb dX10_split_72 (lv_at hl 0 rfl) ?_
    refine lv_bipush (v := 36) hx hb dX10_split_74 (by decide) ?_
    refine lv_isub hx hb dX10_split_76 ?_
    refine va_mmax hx hb (hml.trans hl.1.symm) hown (hts _ wm_t698) (hts _ wm_t50) (hts _ wm_t4) (hts _ wm_t51) (by decide) (Nat.le_of_ble_eq_true rfl) (Nat.zero_le _) (Nat.zero_le _) dX10_split_77 ?_
    refine lv_topi (fun v2 ev2 => ?_)
    replace hf := nm_i ev2 hf
    refine lv_istore (lv' := [(9, .int v2), (8, .int ((x1 - x5) - x6)), (7, .int ((fX10_worstOf x5) + (fX10_worstOf x6))), (1, .int x1), (2, .int x2), (3, .int x3), (4, .int x4), (5, .int x5), (6, .int x6)]) hx hb dX10_split_80 hl (by decide) rfl (fun ls hl => ?_)
    exact b_fX10_split_82 σ C rec42 hr42 FU x1 x2 x3 x4 x5 x6 ((fX10_worstOf x5) + (fX10_worstOf x6)) ((x1 - x5) - x6) v2 hf H locs ls hP hS (lv_sub hl [3, 4, 5, 6, 7, 8, 2, 1, 0] rfl)
def fX10_split_42 (rec32 : Int32 → Int32 → Int32 → Int32 → Int32 → Option Int32) : Nat → Int32 → Int32 → Int32 → Int32 → Int32 → Int32 → Option Int32
  | 0 => fun _ _ _ _ _ _ => none
  | n + 1 => fun x1 x2 x3 x4 x5 x6 => fX10_split_42B rec32 (fX10_split_42 rec32 n) x1 x2 x3 x4 x5 x6
theorem b_fX10_split_42 {E : Ev} {l : Launch} {p : Program} {e : Env} {s : State} {m : MethodId} {args : Array Value} {below : List Frame} {meth : Method} {c : Code} (σ : St) (C : CX true E RX10 cX10_split 11 (some .int) p s m args meth c) {rr : Int32} (rec32 : Int32 → Int32 → Int32 → Int32 → Int32 → Option Int32) (hr32 : ∀  (x1 : Int32) (x2 : Int32) (x3 : Int32) (x4 : Int32) (x5 : Int32), rec32 x1 x2 x3 x4 x5 = some rr → GW true l (rmD 3) E 11 p e s m args below meth c (MQ below (QI true E rr σ s.heap.size) args s 0 0 (aW true E s.heap.size)) σ 32 [(1, .int x1), (2, .int x2), (3, .int x3), (4, .int x4), (5, .int x5)] []) : ∀ (n : Nat) (x1 : Int32) (x2 : Int32) (x3 : Int32) (x4 : Int32) (x5 : Int32) (x6 : Int32), fX10_split_42 rec32 n x1 x2 x3 x4 x5 x6 = some rr → GW true l (rmD 3) E 11 p e s m args below meth c (MQ below (QI true E rr σ s.heap.size) args s 0 0 (aW true E s.heap.size)) σ 42 [(1, .int x1), (2, .int x2), (3, .int x3), (4, .int x4), (5, .int x5), (6, .int x6)] [] := by
  intro n
  induction n with
  | zero => intro x1 x2 x3 x4 x5 x6 hf; have hf : (none : Option _) = some _ := hf; cases hf
  | succ n ih => intro x1 x2 x3 x4 x5 x6 hf; exact b_fX10_split_42B σ C rec32 hr32 (fX10_split_42 rec32 n) ih x1 x2 x3 x4 x5 x6 hf
def fX10_split_32B (rec32 : Int32 → Int32 → Int32 → Int32 → Int32 → Option Int32) (x1 : Int32) (x2 : Int32) (x3 : Int32) (x4 : Int32) (x5 : Int32) : Option Int32 :=
(if 36 < x5 then
(if x2 = 0 then
some x3
else
some ((x4 >>> ((6 * (4 - x2)) &&& 31)) &&& 63))
else
fX10_split_42 rec32 FU x1 x2 x3 x4 x5 0)
set_option maxHeartbeats 4000000 in
theorem b_fX10_split_32B {E : Ev} {l : Launch} {p : Program} {e : Env} {s : State} {m : MethodId} {args : Array Value} {below : List Frame} {meth : Method} {c : Code} (σ : St) (C : CX true E RX10 cX10_split 11 (some .int) p s m args meth c) {rr : Int32} (rec32 : Int32 → Int32 → Int32 → Int32 → Int32 → Option Int32) (hr32 : ∀  (x1 : Int32) (x2 : Int32) (x3 : Int32) (x4 : Int32) (x5 : Int32), rec32 x1 x2 x3 x4 x5 = some rr → GW true l (rmD 3) E 11 p e s m args below meth c (MQ below (QI true E rr σ s.heap.size) args s 0 0 (aW true E s.heap.size)) σ 32 [(1, .int x1), (2, .int x2), (3, .int x3), (4, .int x4), (5, .int x5)] []) : ∀  (x1 : Int32) (x2 : Int32) (x3 : Int32) (x4 : Int32) (x5 : Int32), fX10_split_32B rec32 x1 x2 x3 x4 x5 = some rr → GW true l (rmD 3) E 11 p e s m args below meth c (MQ below (QI true E rr σ s.heap.size) args s 0 0 (aW true E s.heap.size)) σ 32 [(1, .int x1), (2, .int x2), (3, .int x3), (4, .int x4), (5, .int x5)] [] := by
  intro x1 x2 x3 x4 x5 hf H locs ls hP hS hl
  obtain ⟨hx, hb, hr, hml, hown, hts, hlocks, hK, hX, hj⟩ := id C
  unfold fX10_split_32B at hf
  refine lv_iload hx hb dX10_split_32 (lv_at hl 4 rfl) ?_
  refine lv_bipush (v := 36) hx hb dX10_split_34 (by decide) ?_
  refine lv_icmp_gt (tgt := 173) hx hb dX10_split_36 (by decide) (fun c1 => ?_) (fun c1 => ?_)
  · replace hf := it_t c1 hf
    refine lv_iload_n hx hb dX10_split_173 rfl (lv_at hl 1 rfl) ?_
    refine lv_if_ne (tgt := 181) hx hb dX10_split_174 (by decide) (fun c2 => ?_) (fun c2 => ?_)
    · replace hf := it_f c2 hf
      refine lv_iload hx hb dX10_split_181 (lv_at hl 3 rfl) ?_
      refine lv_bipush (v := 6) hx hb dX10_split_183 (by decide) ?_
      refine lv_iconst (v := 4) hx hb dX10_split_185 (by decide) ?_
      refine lv_iload_n hx hb dX10_split_186 rfl (lv_at hl 1 rfl) ?_
      refine lv_isub hx hb dX10_split_187 ?_
      refine lv_imul hx hb dX10_split_188 ?_
      refine lv_ishr hx hb dX10_split_189 ?_
      refine lv_bipush (v := 63) hx hb dX10_split_190 (by decide) ?_
      refine lv_iand hx hb dX10_split_192 ?_
      cases hf
      exact r_iret C hP hS dX10_split_193
    · replace hf := it_t c2 hf
      refine lv_iload_n hx hb dX10_split_177 rfl (lv_at hl 2 rfl) ?_
      refine lv_goto (tgt := 193) hx hb dX10_split_178 (by decide) ?_
      cases hf
      exact r_iret C hP hS dX10_split_193
  · replace hf := it_f c1 hf
    refine lv_iconst (v := 0) hx hb dX10_split_39 (by decide) ?_
    refine lv_istore (lv' := [(6, .int 0), (1, .int x1), (2, .int x2), (3, .int x3), (4, .int x4), (5, .int x5)]) hx hb dX10_split_40 hl (by decide) rfl (fun ls hl => ?_)
    exact b_fX10_split_42 σ C rec32 hr32 FU x1 x2 x3 x4 x5 0 hf H locs ls hP hS (lv_sub hl [1, 2, 3, 4, 5, 0] rfl)
def fX10_split_32 : Nat → Int32 → Int32 → Int32 → Int32 → Int32 → Option Int32
  | 0 => fun _ _ _ _ _ => none
  | n + 1 => fun x1 x2 x3 x4 x5 => fX10_split_32B (fX10_split_32 n) x1 x2 x3 x4 x5
theorem b_fX10_split_32 {E : Ev} {l : Launch} {p : Program} {e : Env} {s : State} {m : MethodId} {args : Array Value} {below : List Frame} {meth : Method} {c : Code} (σ : St) (C : CX true E RX10 cX10_split 11 (some .int) p s m args meth c) {rr : Int32} : ∀ (n : Nat) (x1 : Int32) (x2 : Int32) (x3 : Int32) (x4 : Int32) (x5 : Int32), fX10_split_32 n x1 x2 x3 x4 x5 = some rr → GW true l (rmD 3) E 11 p e s m args below meth c (MQ below (QI true E rr σ s.heap.size) args s 0 0 (aW true E s.heap.size)) σ 32 [(1, .int x1), (2, .int x2), (3, .int x3), (4, .int x4), (5, .int x5)] [] := by
  intro n
  induction n with
  | zero => intro x1 x2 x3 x4 x5 hf; have hf : (none : Option _) = some _ := hf; cases hf
  | succ n ih => intro x1 x2 x3 x4 x5 hf; exact b_fX10_split_32B σ C (fX10_split_32 n) ih x1 x2 x3 x4 x5 hf
def fX10_split (a0 : Int32) (a1 : Int32) : Option Int32 :=
(if (fX10_within a0 145) = 0 then
some (-1)
else
(if (fX10_within a1 5) = 0 then
some (-1)
else
fX10_split_32 FU a0 a1 ((5 * a0) + 1) 0 0))
set_option maxHeartbeats 4000000 in
theorem c_fX10_split {E : Ev} {l : Launch} (hj : jW true E) (σ : St) (sz : Nat) (a0 : Int32) (a1 : Int32) {rr : Int32} (hf : fX10_split a0 a1 = some rr) : Met l yX10_split (Cond.code yX10_split cX10_split 11 (some .int) :: gT) (rmD 3) (va_Pc [.ref (ea E 0), .int a0, .int a1] (preW true E σ sz)) (QI true E rr σ sz) 0 0 (aW true E sz) := by
  refine r_entry (QI true E rr σ) hj (by decide) [.ref (ea E 0), .int a0, .int a1] (Nat.le_of_ble_eq_true rfl) (fun p e s m args below meth c C => ?_)
  intro H locs ls hP hS hl
  have hl : lv_has ls 11 [(0, .ref (ea E 0)), (1, .int a0), (2, .int a1)] := hl
  obtain ⟨hx, hb, hr, hml, hown, hts, hlocks, hK, hX, hj⟩ := id C
  unfold fX10_split at hf
  refine lv_iload_n hx hb dX10_split_0 rfl (lv_at hl 1 rfl) ?_
  refine lv_sipush (v := 145) hx hb dX10_split_1 (by decide) ?_
  refine r_cSi (n := 2) (As := [.int a0, .int 145]) (rest := []) C (c_fX10_within hj σ H.size a0 145) gs_RX10_85 (by decide +kernel) (rmD_le (by decide) (by decide)) rfl rfl (Nat.le_of_ble_eq_true rfl) dX10_split_4 hP hS hl.1 (fun H locs hP hS => ?_)
  refine lv_if_eq (tgt := 18) hx hb dX10_split_7 (by decide) (fun c1 => ?_) (fun c1 => ?_)
  · replace hf := it_t c1 hf
    refine lv_iconst (v := (-1)) hx hb dX10_split_18 (by decide) ?_
    cases hf
    exact r_iret C hP hS dX10_split_19
  · replace hf := it_f c1 hf
    refine lv_iload_n hx hb dX10_split_10 rfl (lv_at hl 2 rfl) ?_
    refine lv_iconst (v := 5) hx hb dX10_split_11 (by decide) ?_
    refine r_cSi (n := 2) (As := [.int a1, .int 5]) (rest := []) C (c_fX10_within hj σ H.size a1 5) gs_RX10_85 (by decide +kernel) (rmD_le (by decide) (by decide)) rfl rfl (Nat.le_of_ble_eq_true rfl) dX10_split_12 hP hS hl.1 (fun H locs hP hS => ?_)
    refine lv_if_ne (tgt := 20) hx hb dX10_split_15 (by decide) (fun c2 => ?_) (fun c2 => ?_)
    · replace hf := it_f c2 hf
      refine lv_iconst (v := 5) hx hb dX10_split_20 (by decide) ?_
      refine lv_iload_n hx hb dX10_split_21 rfl (lv_at hl 1 rfl) ?_
      refine lv_imul hx hb dX10_split_22 ?_
      refine lv_iconst (v := 1) hx hb dX10_split_23 (by decide) ?_
      refine lv_iadd hx hb dX10_split_24 ?_
      refine lv_istore_n (lv' := [(3, .int ((5 * a0) + 1)), (0, .ref (ea E 0)), (1, .int a0), (2, .int a1)]) hx hb dX10_split_25 rfl hl (by decide) rfl (fun ls hl => ?_)
      refine lv_iconst (v := 0) hx hb dX10_split_26 (by decide) ?_
      refine lv_istore (lv' := [(4, .int 0), (3, .int ((5 * a0) + 1)), (0, .ref (ea E 0)), (1, .int a0), (2, .int a1)]) hx hb dX10_split_27 hl (by decide) rfl (fun ls hl => ?_)
      refine lv_iconst (v := 0) hx hb dX10_split_29 (by decide) ?_
      refine lv_istore (lv' := [(5, .int 0), (4, .int 0), (3, .int ((5 * a0) + 1)), (0, .ref (ea E 0)), (1, .int a0), (2, .int a1)]) hx hb dX10_split_30 hl (by decide) rfl (fun ls hl => ?_)
      exact b_fX10_split_32 σ C FU a0 a1 ((5 * a0) + 1) 0 0 hf H locs ls hP hS (lv_sub hl [4, 5, 2, 1, 0] rfl)
    · replace hf := it_t c2 hf
      refine lv_iconst (v := (-1)) hx hb dX10_split_18 (by decide) ?_
      cases hf
      exact r_iret C hP hS dX10_split_19
def fX10_can (σ : St) (a0 : Int32) (a1 : Int32) (a2 : Int32) : Option (Int32 × St) :=
(if (fX10_heapCell a0 a1 a2) = (-1) then
some ((-1), σ)
else
(rdK (stN 5) (σ (5 + 1)) (fX10_heapCell a0 a1 a2) fun v2 =>
(if v2 = 0 then
some ((-1), σ)
else
(cq (fX8_wetAt 5 σ (fX10_heapCell a0 a1 a2)) fun r5 =>
(cb (fX0_fill σ (fX10_heapCell a0 a1 a2) r5 (σ 0 12)) fun r7 σ9 =>
some (r7, σ9))))))
set_option maxHeartbeats 4000000 in
theorem c_fX10_can {E : Ev} {l : Launch} (hj : jW true E) (σ : St) (sz : Nat) (a0 : Int32) (a1 : Int32) (a2 : Int32) {rr : Int32} {sr : St} (hf : fX10_can σ a0 a1 a2 = some (rr, sr)) : Met l yX10_can (Cond.code yX10_can cX10_can 5 (some .int) :: gT) (rmD 3) (va_Pc [.ref (ea E 0), .int a0, .int a1, .int a2] (preW true E σ sz)) (QI true E rr sr sz) 0 0 (aW true E sz) := by
  refine r_entry (QI true E rr sr) hj (by decide) [.ref (ea E 0), .int a0, .int a1, .int a2] (Nat.le_of_ble_eq_true rfl) (fun p e s m args below meth c C => ?_)
  intro H locs ls hP hS hl
  have hl : lv_has ls 5 [(0, .ref (ea E 0)), (1, .int a0), (2, .int a1), (3, .int a2)] := hl
  obtain ⟨hx, hb, hr, hml, hown, hts, hlocks, hK, hX, hj⟩ := id C
  unfold fX10_can at hf
  refine lv_iload_n hx hb dX10_can_0 rfl (lv_at hl 1 rfl) ?_
  refine lv_iload_n hx hb dX10_can_1 rfl (lv_at hl 2 rfl) ?_
  refine lv_iload_n hx hb dX10_can_2 rfl (lv_at hl 3 rfl) ?_
  refine r_cSi (n := 3) (As := [.int a0, .int a1, .int a2]) (rest := []) C (c_fX10_heapCell hj σ H.size a0 a1 a2) gs_RX10_96 (by decide +kernel) (rmD_le (by decide) (by decide)) rfl rfl (Nat.le_of_ble_eq_true rfl) dX10_can_3 hP hS hl.1 (fun H locs hP hS => ?_)
  refine lv_istore (lv' := [(4, .int (fX10_heapCell a0 a1 a2)), (0, .ref (ea E 0)), (1, .int a0), (2, .int a1), (3, .int a2)]) hx hb dX10_can_6 hl (by decide) rfl (fun ls hl => ?_)
  refine lv_iload hx hb dX10_can_8 (lv_at hl 0 rfl) ?_
  refine lv_iconst (v := (-1)) hx hb dX10_can_10 (by decide) ?_
  refine lv_icmp_eq (tgt := 27) hx hb dX10_can_11 (by decide) (fun c1 => ?_) (fun c1 => ?_)
  · replace hf := it_t c1 hf
    refine lv_iconst (v := (-1)) hx hb dX10_can_27 (by decide) ?_
    cases hf
    exact r_iret C hP hS dX10_can_28
  · replace hf := it_f c1 hf
    refine lv_aload_n hx hb dX10_can_14 rfl (lv_at hl 1 rfl) ?_
    refine r_get (k := 1) (v := .ref (ea E 5)) C hP oC_0 rfl iX10 (by decide) wm_t295 rfl rfl dX10_can_15 ?_
    refine r_get (k := 3) (v := .ref (ea E (5 + 1))) C hP (oS fS_5) rfl iX8 (by decide) wm_t57 rfl rfl dX10_can_18 ?_
    refine lv_iload hx hb dX10_can_21 (lv_at hl 0 rfl) ?_
    have h3 := (rdK_e hf).1
    refine r_ald C hP (aS_1 fS_5) h3 dX10_can_23 ?_
    refine lv_topi (fun v2 ev2 => ?_)
    replace hf := rdK_n ev2 hf
    refine lv_if_ne (tgt := 29) hx hb dX10_can_24 (by decide) (fun c4 => ?_) (fun c4 => ?_)
    · replace hf := it_f c4 hf
      refine lv_aload_n hx hb dX10_can_29 rfl (lv_at hl 1 rfl) ?_
      refine r_get (k := 7) (v := .ref (ea E 34)) C hP oC_0 rfl iX10 (by decide) wm_t301 rfl rfl dX10_can_30 ?_
      refine lv_iload hx hb dX10_can_33 (lv_at hl 0 rfl) ?_
      refine lv_aload_n hx hb dX10_can_35 rfl (lv_at hl 1 rfl) ?_
      refine r_get (k := 1) (v := .ref (ea E 5)) C hP oC_0 rfl iX10 (by decide) wm_t295 rfl rfl dX10_can_36 ?_
      refine lv_iload hx hb dX10_can_39 (lv_at hl 0 rfl) ?_
      obtain ⟨r5, hc6, hf⟩ := cq_e hf
      refine r_cVi (n := 1) (As := [.int (fX10_heapCell a0 a1 a2)]) (rest := [.int (fX10_heapCell a0 a1 a2), .ref (ea E 34)]) C (c_fX8_wetAt fS_5 hj σ H.size (fX10_heapCell a0 a1 a2) hc6) (oS fS_5) rfl gv_RX10_118 (by decide +kernel) (rmD_le (by decide) (by decide)) rfl rfl (Nat.le_of_ble_eq_true rfl) dX10_can_41 hP hS hl.1 (fun H locs hP hS => ?_)
      refine lv_aload_n hx hb dX10_can_44 rfl (lv_at hl 1 rfl) ?_
      refine r_get (k := 12) (v := .int (σ 0 12)) C hP oC_0 rfl iX10 (by decide) wm_t306 rfl rfl dX10_can_45 ?_
      obtain ⟨r7, σ9, hc8, hf⟩ := cb_e hf
      refine r_cVi (n := 3) (As := [.int (fX10_heapCell a0 a1 a2), .int r5, .int (σ 0 12)]) (rest := []) C (c_fX0_fill hj σ H.size (fX10_heapCell a0 a1 a2) r5 (σ 0 12) hc8) oC_34 rfl gv_RX10_248 (by decide +kernel) (rmD_le (by decide) (by decide)) rfl rfl (Nat.le_of_ble_eq_true rfl) dX10_can_48 hP hS hl.1 (fun H locs hP hS => ?_)
      cases hf
      exact r_iret C hP hS dX10_can_51
    · replace hf := it_t c4 hf
      refine lv_iconst (v := (-1)) hx hb dX10_can_27 (by decide) ?_
      cases hf
      exact r_iret C hP hS dX10_can_28
def fX10_step (σ : St) (a0 : Int32) : Option (Int32 × St) :=
(if (fX10_within a0 21) = 0 then
some (0, σ)
else
(nmS (st_put σ 34 0 a0) fun σ2 =>
some (1, σ2)))
set_option maxHeartbeats 4000000 in
theorem c_fX10_step {E : Ev} {l : Launch} (hj : jW true E) (σ : St) (sz : Nat) (a0 : Int32) {rr : Int32} {sr : St} (hf : fX10_step σ a0 = some (rr, sr)) : Met l yX10_step (Cond.code yX10_step cX10_step 2 (some .boolean) :: gT) (rmD 2) (va_Pc [.ref (ea E 0), .int a0] (preW true E σ sz)) (QI true E rr sr sz) 0 0 (aW true E sz) := by
  refine r_entry (QI true E rr sr) hj (by decide) [.ref (ea E 0), .int a0] (Nat.le_of_ble_eq_true rfl) (fun p e s m args below meth c C => ?_)
  intro H locs ls hP hS hl
  have hl : lv_has ls 2 [(0, .ref (ea E 0)), (1, .int a0)] := hl
  obtain ⟨hx, hb, hr, hml, hown, hts, hlocks, hK, hX, hj⟩ := id C
  unfold fX10_step at hf
  refine lv_iload_n hx hb dX10_step_0 rfl (lv_at hl 1 rfl) ?_
  refine lv_bipush (v := 21) hx hb dX10_step_1 (by decide) ?_
  refine r_cSi (n := 2) (As := [.int a0, .int 21]) (rest := []) C (c_fX10_within hj σ H.size a0 21) gs_RX10_85 (by decide +kernel) (rmD_le (by decide) (by decide)) rfl rfl (Nat.le_of_ble_eq_true rfl) dX10_step_3 hP hS hl.1 (fun H locs hP hS => ?_)
  refine lv_if_ne (tgt := 11) hx hb dX10_step_6 (by decide) (fun c1 => ?_) (fun c1 => ?_)
  · replace hf := it_f c1 hf
    refine lv_aload_n hx hb dX10_step_11 rfl (lv_at hl 0 rfl) ?_
    refine r_get (k := 7) (v := .ref (ea E 34)) C hP oC_0 rfl iX10 (by decide) wm_t301 rfl rfl dX10_step_12 ?_
    refine lv_iload_n hx hb dX10_step_15 rfl (lv_at hl 1 rfl) ?_
    refine r_put (k := 0) (x := a0) C hP hS tyX0 tyX0_ok nmX0 oC_34 rfl iX0 (by decide) wm_t248 rfl rfl sC_34_0 rfl rfl (Nat.le_of_ble_eq_true rfl) dX10_step_16 (fun H locs hP hS => ?_)
    obtain ⟨σ2, eσ2, hf⟩ := nmS_e hf
    rw [← eσ2] at hP
    refine lv_iconst (v := 1) hx hb dX10_step_19 (by decide) ?_
    cases hf
    exact r_zret C rfl hP hS dX10_step_20
  · replace hf := it_t c1 hf
    refine lv_iconst (v := 0) hx hb dX10_step_9 (by decide) ?_
    cases hf
    exact r_zret C rfl hP hS dX10_step_10
def fX10_span (σ : St) (a0 : Int32) (a1 : Int32) (a2 : Int32) (a3 : Int32) (a4 : Int32) : Option Int32 :=
(if (fX10_heapCell a0 a1 a2) = (-1) then
some (-1)
else
(if (fX10_within a3 720) = 0 then
some (-1)
else
(if (fX10_within a4 2) = 0 then
some (-1)
else
(if a4 = 0 then
(cq (fX0_least σ (fX10_heapCell a0 a1 a2) a3) fun r7 =>
some r7)
else
(cq (fX0_greatest σ (fX10_heapCell a0 a1 a2) a3) fun r5 =>
some r5)))))
set_option maxHeartbeats 4000000 in
theorem c_fX10_span {E : Ev} {l : Launch} (hj : jW true E) (σ : St) (sz : Nat) (a0 : Int32) (a1 : Int32) (a2 : Int32) (a3 : Int32) (a4 : Int32) {rr : Int32} (hf : fX10_span σ a0 a1 a2 a3 a4 = some rr) : Met l yX10_span (Cond.code yX10_span cX10_span 7 (some .int) :: gT) (rmD 4) (va_Pc [.ref (ea E 0), .int a0, .int a1, .int a2, .int a3, .int a4] (preW true E σ sz)) (QI true E rr σ sz) 0 0 (aW true E sz) := by
  refine r_entry (QI true E rr σ) hj (by decide) [.ref (ea E 0), .int a0, .int a1, .int a2, .int a3, .int a4] (Nat.le_of_ble_eq_true rfl) (fun p e s m args below meth c C => ?_)
  intro H locs ls hP hS hl
  have hl : lv_has ls 7 [(0, .ref (ea E 0)), (1, .int a0), (2, .int a1), (3, .int a2), (4, .int a3), (5, .int a4)] := hl
  obtain ⟨hx, hb, hr, hml, hown, hts, hlocks, hK, hX, hj⟩ := id C
  unfold fX10_span at hf
  refine lv_iload_n hx hb dX10_span_0 rfl (lv_at hl 1 rfl) ?_
  refine lv_iload_n hx hb dX10_span_1 rfl (lv_at hl 2 rfl) ?_
  refine lv_iload_n hx hb dX10_span_2 rfl (lv_at hl 3 rfl) ?_
  refine r_cSi (n := 3) (As := [.int a0, .int a1, .int a2]) (rest := []) C (c_fX10_heapCell hj σ H.size a0 a1 a2) gs_RX10_96 (by decide +kernel) (rmD_le (by decide) (by decide)) rfl rfl (Nat.le_of_ble_eq_true rfl) dX10_span_3 hP hS hl.1 (fun H locs hP hS => ?_)
  refine lv_istore (lv' := [(6, .int (fX10_heapCell a0 a1 a2)), (0, .ref (ea E 0)), (1, .int a0), (2, .int a1), (3, .int a2), (4, .int a3), (5, .int a4)]) hx hb dX10_span_6 hl (by decide) rfl (fun ls hl => ?_)
  refine lv_iload hx hb dX10_span_8 (lv_at hl 0 rfl) ?_
  refine lv_iconst (v := (-1)) hx hb dX10_span_10 (by decide) ?_
  refine lv_icmp_eq (tgt := 34) hx hb dX10_span_11 (by decide) (fun c1 => ?_) (fun c1 => ?_)
  · replace hf := it_t c1 hf
    refine lv_iconst (v := (-1)) hx hb dX10_span_34 (by decide) ?_
    cases hf
    exact r_iret C hP hS dX10_span_35
  · replace hf := it_f c1 hf
    refine lv_iload hx hb dX10_span_14 (lv_at hl 5 rfl) ?_
    refine lv_sipush (v := 720) hx hb dX10_span_16 (by decide) ?_
    refine r_cSi (n := 2) (As := [.int a3, .int 720]) (rest := []) C (c_fX10_within hj σ H.size a3 720) gs_RX10_85 (by decide +kernel) (rmD_le (by decide) (by decide)) rfl rfl (Nat.le_of_ble_eq_true rfl) dX10_span_19 hP hS hl.1 (fun H locs hP hS => ?_)
    refine lv_if_eq (tgt := 34) hx hb dX10_span_22 (by decide) (fun c2 => ?_) (fun c2 => ?_)
    · replace hf := it_t c2 hf
      refine lv_iconst (v := (-1)) hx hb dX10_span_34 (by decide) ?_
      cases hf
      exact r_iret C hP hS dX10_span_35
    · replace hf := it_f c2 hf
      refine lv_iload hx hb dX10_span_25 (lv_at hl 6 rfl) ?_
      refine lv_iconst (v := 2) hx hb dX10_span_27 (by decide) ?_
      refine r_cSi (n := 2) (As := [.int a4, .int 2]) (rest := []) C (c_fX10_within hj σ H.size a4 2) gs_RX10_85 (by decide +kernel) (rmD_le (by decide) (by decide)) rfl rfl (Nat.le_of_ble_eq_true rfl) dX10_span_28 hP hS hl.1 (fun H locs hP hS => ?_)
      refine lv_if_ne (tgt := 36) hx hb dX10_span_31 (by decide) (fun c3 => ?_) (fun c3 => ?_)
      · replace hf := it_f c3 hf
        refine lv_iload hx hb dX10_span_36 (lv_at hl 6 rfl) ?_
        refine lv_if_ne (tgt := 55) hx hb dX10_span_38 (by decide) (fun c4 => ?_) (fun c4 => ?_)
        · replace hf := it_f c4 hf
          refine lv_aload_n hx hb dX10_span_55 rfl (lv_at hl 1 rfl) ?_
          refine r_get (k := 7) (v := .ref (ea E 34)) C hP oC_0 rfl iX10 (by decide) wm_t301 rfl rfl dX10_span_56 ?_
          refine lv_iload hx hb dX10_span_59 (lv_at hl 0 rfl) ?_
          refine lv_iload hx hb dX10_span_61 (lv_at hl 5 rfl) ?_
          obtain ⟨r5, hc6, hf⟩ := cq_e hf
          refine r_cVi (n := 2) (As := [.int (fX10_heapCell a0 a1 a2), .int a3]) (rest := []) C (c_fX0_greatest hj σ H.size (fX10_heapCell a0 a1 a2) a3 hc6) oC_34 rfl gv_RX10_257 (by decide +kernel) (rmD_le (by decide) (by decide)) rfl rfl (Nat.le_of_ble_eq_true rfl) dX10_span_63 hP hS hl.1 (fun H locs hP hS => ?_)
          cases hf
          exact r_iret C hP hS dX10_span_66
        · replace hf := it_t c4 hf
          refine lv_aload_n hx hb dX10_span_41 rfl (lv_at hl 1 rfl) ?_
          refine r_get (k := 7) (v := .ref (ea E 34)) C hP oC_0 rfl iX10 (by decide) wm_t301 rfl rfl dX10_span_42 ?_
          refine lv_iload hx hb dX10_span_45 (lv_at hl 0 rfl) ?_
          refine lv_iload hx hb dX10_span_47 (lv_at hl 5 rfl) ?_
          obtain ⟨r7, hc8, hf⟩ := cq_e hf
          refine r_cVi (n := 2) (As := [.int (fX10_heapCell a0 a1 a2), .int a3]) (rest := []) C (c_fX0_least hj σ H.size (fX10_heapCell a0 a1 a2) a3 hc8) oC_34 rfl gv_RX10_254 (by decide +kernel) (rmD_le (by decide) (by decide)) rfl rfl (Nat.le_of_ble_eq_true rfl) dX10_span_49 hP hS hl.1 (fun H locs hP hS => ?_)
          refine lv_goto (tgt := 66) hx hb dX10_span_52 (by decide) ?_
          cases hf
          exact r_iret C hP hS dX10_span_66
      · replace hf := it_t c3 hf
        refine lv_iconst (v := (-1)) hx hb dX10_span_34 (by decide) ?_
        cases hf
        exact r_iret C hP hS dX10_span_35
def fX10_mean_44 (σ : St) (y0 : Int32) (y1 : Int32) : Option Int32 :=
(cq (fX0_meanEnd σ y1 y0) fun r1 =>
some r1)
set_option maxHeartbeats 4000000 in
theorem b_fX10_mean_44 {E : Ev} {l : Launch} {p : Program} {e : Env} {s : State} {m : MethodId} {args : Array Value} {below : List Frame} {meth : Method} {c : Code} (σ : St) (C : CX true E RX10 cX10_mean 4 (some .int) p s m args meth c) {rr : Int32} : ∀  (y0 : Int32) (y1 : Int32), fX10_mean_44 σ y0 y1 = some rr → GW true l (rmD 5) E 4 p e s m args below meth c (MQ below (QI true E rr σ s.heap.size) args s 0 0 (aW true E s.heap.size)) σ 44 [] [.int y0, .int y1, .ref (ea E 5), .ref (ea E 34)] := by
  intro y0 y1 hf H locs ls hP hS hl
  obtain ⟨hx, hb, hr, hml, hown, hts, hlocks, hK, hX, hj⟩ := id C
  unfold fX10_mean_44 at hf
  obtain ⟨r1, hc2, hf⟩ := cq_e hf
  refine r_cVi (n := 3) (As := [.ref (ea E 5), .int y1, .int y0]) (rest := []) C (c_fX0_meanEnd hj σ H.size y1 y0 hc2) oC_34 rfl gv_RX10_260 (by decide +kernel) (rmD_le (by decide) (by decide)) rfl rfl (Nat.le_of_ble_eq_true rfl) dX10_mean_44 hP hS hl.1 (fun H locs hP hS => ?_)
  cases hf
  exact r_iret C hP hS dX10_mean_47
def fX10_mean (σ : St) (a0 : Int32) (a1 : Int32) : Option Int32 :=
(if (fX10_within a0 720) = 0 then
some (-1)
else
(if (fX10_within a1 3) = 0 then
some (-1)
else
(if 2 ≤ a1 then
(cq (fX0_meanEnd σ a0 0) fun r4 =>
(if (σ 0 13) = (-1) then
some (-1)
else
(if r4 = (-1) then
some (-1)
else
(if (σ 0 13) < r4 then
some 0
else
(cq (fX0_meanEnd σ a0 1) fun r9 =>
(if r9 < (σ 0 13) then
some 0
else
some 1))))))
else
(if a1 = 1 then
fX10_mean_44 σ 1 a0
else
fX10_mean_44 σ 0 a0))))
set_option maxHeartbeats 4000000 in
theorem c_fX10_mean {E : Ev} {l : Launch} (hj : jW true E) (σ : St) (sz : Nat) (a0 : Int32) (a1 : Int32) {rr : Int32} (hf : fX10_mean σ a0 a1 = some rr) : Met l yX10_mean (Cond.code yX10_mean cX10_mean 4 (some .int) :: gT) (rmD 5) (va_Pc [.ref (ea E 0), .int a0, .int a1] (preW true E σ sz)) (QI true E rr σ sz) 0 0 (aW true E sz) := by
  refine r_entry (QI true E rr σ) hj (by decide) [.ref (ea E 0), .int a0, .int a1] (Nat.le_of_ble_eq_true rfl) (fun p e s m args below meth c C => ?_)
  intro H locs ls hP hS hl
  have hl : lv_has ls 4 [(0, .ref (ea E 0)), (1, .int a0), (2, .int a1)] := hl
  obtain ⟨hx, hb, hr, hml, hown, hts, hlocks, hK, hX, hj⟩ := id C
  unfold fX10_mean at hf
  refine lv_iload_n hx hb dX10_mean_0 rfl (lv_at hl 1 rfl) ?_
  refine lv_sipush (v := 720) hx hb dX10_mean_1 (by decide) ?_
  refine r_cSi (n := 2) (As := [.int a0, .int 720]) (rest := []) C (c_fX10_within hj σ H.size a0 720) gs_RX10_85 (by decide +kernel) (rmD_le (by decide) (by decide)) rfl rfl (Nat.le_of_ble_eq_true rfl) dX10_mean_4 hP hS hl.1 (fun H locs hP hS => ?_)
  refine lv_if_eq (tgt := 18) hx hb dX10_mean_7 (by decide) (fun c1 => ?_) (fun c1 => ?_)
  · replace hf := it_t c1 hf
    refine lv_iconst (v := (-1)) hx hb dX10_mean_18 (by decide) ?_
    cases hf
    exact r_iret C hP hS dX10_mean_19
  · replace hf := it_f c1 hf
    refine lv_iload_n hx hb dX10_mean_10 rfl (lv_at hl 2 rfl) ?_
    refine lv_iconst (v := 3) hx hb dX10_mean_11 (by decide) ?_
    refine r_cSi (n := 2) (As := [.int a1, .int 3]) (rest := []) C (c_fX10_within hj σ H.size a1 3) gs_RX10_85 (by decide +kernel) (rmD_le (by decide) (by decide)) rfl rfl (Nat.le_of_ble_eq_true rfl) dX10_mean_12 hP hS hl.1 (fun H locs hP hS => ?_)
    refine lv_if_ne (tgt := 20) hx hb dX10_mean_15 (by decide) (fun c2 => ?_) (fun c2 => ?_)
    · replace hf := it_f c2 hf
      refine lv_iload_n hx hb dX10_mean_20 rfl (lv_at hl 2 rfl) ?_
      refine lv_iconst (v := 2) hx hb dX10_mean_21 (by decide) ?_
      refine lv_icmp_ge (tgt := 48) hx hb dX10_mean_22 (by decide) (fun c3 => ?_) (fun c3 => ?_)
      · replace hf := it_t c3 hf
        refine lv_aload_n hx hb dX10_mean_48 rfl (lv_at hl 0 rfl) ?_
        refine r_get (k := 7) (v := .ref (ea E 34)) C hP oC_0 rfl iX10 (by decide) wm_t301 rfl rfl dX10_mean_49 ?_
        refine lv_aload_n hx hb dX10_mean_52 rfl (lv_at hl 0 rfl) ?_
        refine r_get (k := 1) (v := .ref (ea E 5)) C hP oC_0 rfl iX10 (by decide) wm_t295 rfl rfl dX10_mean_53 ?_
        refine lv_iload_n hx hb dX10_mean_56 rfl (lv_at hl 1 rfl) ?_
        refine lv_iconst (v := 0) hx hb dX10_mean_57 (by decide) ?_
        obtain ⟨r4, hc5, hf⟩ := cq_e hf
        refine r_cVi (n := 3) (As := [.ref (ea E 5), .int a0, .int 0]) (rest := []) C (c_fX0_meanEnd hj σ H.size a0 0 hc5) oC_34 rfl gv_RX10_260 (by decide +kernel) (rmD_le (by decide) (by decide)) rfl rfl (Nat.le_of_ble_eq_true rfl) dX10_mean_58 hP hS hl.1 (fun H locs hP hS => ?_)
        refine lv_istore_n (lv' := [(3, .int r4), (0, .ref (ea E 0)), (1, .int a0), (2, .int a1)]) hx hb dX10_mean_61 rfl hl (by decide) rfl (fun ls hl => ?_)
        refine lv_aload_n hx hb dX10_mean_62 rfl (lv_at hl 1 rfl) ?_
        refine r_get (k := 13) (v := .int (σ 0 13)) C hP oC_0 rfl iX10 (by decide) wm_t307 rfl rfl dX10_mean_63 ?_
        refine lv_iconst (v := (-1)) hx hb dX10_mean_66 (by decide) ?_
        refine lv_icmp_eq (tgt := 75) hx hb dX10_mean_67 (by decide) (fun c6 => ?_) (fun c6 => ?_)
        · replace hf := it_t c6 hf
          refine lv_iconst (v := (-1)) hx hb dX10_mean_75 (by decide) ?_
          cases hf
          exact r_iret C hP hS dX10_mean_76
        · replace hf := it_f c6 hf
          refine lv_iload_n hx hb dX10_mean_70 rfl (lv_at hl 0 rfl) ?_
          refine lv_iconst (v := (-1)) hx hb dX10_mean_71 (by decide) ?_
          refine lv_icmp_ne (tgt := 77) hx hb dX10_mean_72 (by decide) (fun c7 => ?_) (fun c7 => ?_)
          · replace hf := it_f c7 hf
            refine lv_iload_n hx hb dX10_mean_77 rfl (lv_at hl 0 rfl) ?_
            refine lv_aload_n hx hb dX10_mean_78 rfl (lv_at hl 1 rfl) ?_
            refine r_get (k := 13) (v := .int (σ 0 13)) C hP oC_0 rfl iX10 (by decide) wm_t307 rfl rfl dX10_mean_79 ?_
            refine lv_icmp_gt (tgt := 109) hx hb dX10_mean_82 (by decide) (fun c8 => ?_) (fun c8 => ?_)
            · replace hf := it_t c8 hf
              refine lv_iconst (v := 0) hx hb dX10_mean_109 (by decide) ?_
              cases hf
              exact r_iret C hP hS dX10_mean_110
            · replace hf := it_f c8 hf
              refine lv_aload_n hx hb dX10_mean_85 rfl (lv_at hl 1 rfl) ?_
              refine r_get (k := 13) (v := .int (σ 0 13)) C hP oC_0 rfl iX10 (by decide) wm_t307 rfl rfl dX10_mean_86 ?_
              refine lv_aload_n hx hb dX10_mean_89 rfl (lv_at hl 1 rfl) ?_
              refine r_get (k := 7) (v := .ref (ea E 34)) C hP oC_0 rfl iX10 (by decide) wm_t301 rfl rfl dX10_mean_90 ?_
              refine lv_aload_n hx hb dX10_mean_93 rfl (lv_at hl 1 rfl) ?_
              refine r_get (k := 1) (v := .ref (ea E 5)) C hP oC_0 rfl iX10 (by decide) wm_t295 rfl rfl dX10_mean_94 ?_
              refine lv_iload_n hx hb dX10_mean_97 rfl (lv_at hl 2 rfl) ?_
              refine lv_iconst (v := 1) hx hb dX10_mean_98 (by decide) ?_
              obtain ⟨r9, hc10, hf⟩ := cq_e hf
              refine r_cVi (n := 3) (As := [.ref (ea E 5), .int a0, .int 1]) (rest := [.int (σ 0 13)]) C (c_fX0_meanEnd hj σ H.size a0 1 hc10) oC_34 rfl gv_RX10_260 (by decide +kernel) (rmD_le (by decide) (by decide)) rfl rfl (Nat.le_of_ble_eq_true rfl) dX10_mean_99 hP hS hl.1 (fun H locs hP hS => ?_)
              refine lv_icmp_gt (tgt := 109) hx hb dX10_mean_102 (by decide) (fun c11 => ?_) (fun c11 => ?_)
              · replace hf := it_t c11 hf
                refine lv_iconst (v := 0) hx hb dX10_mean_109 (by decide) ?_
                cases hf
                exact r_iret C hP hS dX10_mean_110
              · replace hf := it_f c11 hf
                refine lv_iconst (v := 1) hx hb dX10_mean_105 (by decide) ?_
                refine lv_goto (tgt := 110) hx hb dX10_mean_106 (by decide) ?_
                cases hf
                exact r_iret C hP hS dX10_mean_110
          · replace hf := it_t c7 hf
            refine lv_iconst (v := (-1)) hx hb dX10_mean_75 (by decide) ?_
            cases hf
            exact r_iret C hP hS dX10_mean_76
      · replace hf := it_f c3 hf
        refine lv_aload_n hx hb dX10_mean_25 rfl (lv_at hl 0 rfl) ?_
        refine r_get (k := 7) (v := .ref (ea E 34)) C hP oC_0 rfl iX10 (by decide) wm_t301 rfl rfl dX10_mean_26 ?_
        refine lv_aload_n hx hb dX10_mean_29 rfl (lv_at hl 0 rfl) ?_
        refine r_get (k := 1) (v := .ref (ea E 5)) C hP oC_0 rfl iX10 (by decide) wm_t295 rfl rfl dX10_mean_30 ?_
        refine lv_iload_n hx hb dX10_mean_33 rfl (lv_at hl 1 rfl) ?_
        refine lv_iload_n hx hb dX10_mean_34 rfl (lv_at hl 2 rfl) ?_
        refine lv_iconst (v := 1) hx hb dX10_mean_35 (by decide) ?_
        refine lv_icmp_ne (tgt := 43) hx hb dX10_mean_36 (by decide) (fun c12 => ?_) (fun c12 => ?_)
        · replace hf := it_f c12 hf
          refine lv_iconst (v := 0) hx hb dX10_mean_43 (by decide) ?_
          exact b_fX10_mean_44 σ C 0 a0 hf H locs ls hP hS (lv_sub hl [] rfl)
        · replace hf := it_t c12 hf
          refine lv_iconst (v := 1) hx hb dX10_mean_39 (by decide) ?_
          refine lv_goto (tgt := 44) hx hb dX10_mean_40 (by decide) ?_
          exact b_fX10_mean_44 σ C 1 a0 hf H locs ls hP hS (lv_sub hl [] rfl)
    · replace hf := it_t c2 hf
      refine lv_iconst (v := (-1)) hx hb dX10_mean_18 (by decide) ?_
      cases hf
      exact r_iret C hP hS dX10_mean_19
def fX10_paper_16 (σ : St) (x1 : Int32) : Option (Int32 × St) :=
(nmS (st_put σ 0 13 x1) fun σ1 =>
some (1, σ1))
set_option maxHeartbeats 4000000 in
theorem b_fX10_paper_16 {E : Ev} {l : Launch} {p : Program} {e : Env} {s : State} {m : MethodId} {args : Array Value} {below : List Frame} {meth : Method} {c : Code} (C : CX true E RX10 cX10_paper 2 (some .boolean) p s m args meth c) {rr : Int32} {sr : St} : ∀ (σ : St) (x1 : Int32), fX10_paper_16 σ x1 = some (rr, sr) → GW true l (rmD 2) E 2 p e s m args below meth c (MQ below (QI true E rr sr s.heap.size) args s 0 0 (aW true E s.heap.size)) σ 16 [(0, .ref (ea E 0)), (1, .int x1)] [] := by
  intro σ x1 hf H locs ls hP hS hl
  obtain ⟨hx, hb, hr, hml, hown, hts, hlocks, hK, hX, hj⟩ := id C
  unfold fX10_paper_16 at hf
  refine lv_aload_n hx hb dX10_paper_16 rfl (lv_at hl 0 rfl) ?_
  refine lv_iload_n hx hb dX10_paper_17 rfl (lv_at hl 1 rfl) ?_
  refine r_put (k := 13) (x := x1) C hP hS tyX10 tyX10_ok nmX10 oC_0 rfl iX10 (by decide) wm_t307 rfl rfl sC_0_13 rfl rfl (Nat.le_of_ble_eq_true rfl) dX10_paper_18 (fun H locs hP hS => ?_)
  obtain ⟨σ1, eσ1, hf⟩ := nmS_e hf
  rw [← eσ1] at hP
  refine lv_iconst (v := 1) hx hb dX10_paper_21 (by decide) ?_
  cases hf
  exact r_zret C rfl hP hS dX10_paper_22
def fX10_paper (σ : St) (a0 : Int32) : Option (Int32 × St) :=
(if a0 = (-1) then
fX10_paper_16 σ a0
else
(if (fX10_within a0 100) = 0 then
some (0, σ)
else
fX10_paper_16 σ a0))
set_option maxHeartbeats 4000000 in
theorem c_fX10_paper {E : Ev} {l : Launch} (hj : jW true E) (σ : St) (sz : Nat) (a0 : Int32) {rr : Int32} {sr : St} (hf : fX10_paper σ a0 = some (rr, sr)) : Met l yX10_paper (Cond.code yX10_paper cX10_paper 2 (some .boolean) :: gT) (rmD 2) (va_Pc [.ref (ea E 0), .int a0] (preW true E σ sz)) (QI true E rr sr sz) 0 0 (aW true E sz) := by
  refine r_entry (QI true E rr sr) hj (by decide) [.ref (ea E 0), .int a0] (Nat.le_of_ble_eq_true rfl) (fun p e s m args below meth c C => ?_)
  intro H locs ls hP hS hl
  have hl : lv_has ls 2 [(0, .ref (ea E 0)), (1, .int a0)] := hl
  obtain ⟨hx, hb, hr, hml, hown, hts, hlocks, hK, hX, hj⟩ := id C
  unfold fX10_paper at hf
  refine lv_iload_n hx hb dX10_paper_0 rfl (lv_at hl 1 rfl) ?_
  refine lv_iconst (v := (-1)) hx hb dX10_paper_1 (by decide) ?_
  refine lv_icmp_eq (tgt := 16) hx hb dX10_paper_2 (by decide) (fun c1 => ?_) (fun c1 => ?_)
  · replace hf := it_t c1 hf
    exact b_fX10_paper_16 C σ a0 hf H locs ls hP hS (lv_sub hl [0, 1] rfl)
  · replace hf := it_f c1 hf
    refine lv_iload_n hx hb dX10_paper_5 rfl (lv_at hl 1 rfl) ?_
    refine lv_bipush (v := 100) hx hb dX10_paper_6 (by decide) ?_
    refine r_cSi (n := 2) (As := [.int a0, .int 100]) (rest := []) C (c_fX10_within hj σ H.size a0 100) gs_RX10_85 (by decide +kernel) (rmD_le (by decide) (by decide)) rfl rfl (Nat.le_of_ble_eq_true rfl) dX10_paper_8 hP hS hl.1 (fun H locs hP hS => ?_)
    refine lv_if_ne (tgt := 16) hx hb dX10_paper_11 (by decide) (fun c2 => ?_) (fun c2 => ?_)
    · replace hf := it_f c2 hf
      exact b_fX10_paper_16 C σ a0 hf H locs ls hP hS (lv_sub hl [0, 1] rfl)
    · replace hf := it_t c2 hf
      refine lv_iconst (v := 0) hx hb dX10_paper_14 (by decide) ?_
      cases hf
      exact r_zret C rfl hP hS dX10_paper_15
def fX10_place (σ : St) (a0 : Int32) (a1 : Int32) (a2 : Int32) (a3 : Int32) : Option (Int32 × St) :=
(if (fX10_heapCell a1 a2 a3) = (-1) then
some (0, σ)
else
(cb (fX3_tell σ a0 (fX10_heapCell a1 a2 a3)) fun r2 σ4 =>
(if r2 = 0 then
some (0, σ4)
else
some (1, σ4))))
set_option maxHeartbeats 4000000 in
theorem c_fX10_place {E : Ev} {l : Launch} (hj : jW true E) (σ : St) (sz : Nat) (a0 : Int32) (a1 : Int32) (a2 : Int32) (a3 : Int32) {rr : Int32} {sr : St} (hf : fX10_place σ a0 a1 a2 a3 = some (rr, sr)) : Met l yX10_place (Cond.code yX10_place cX10_place 6 (some .boolean) :: gT) (rmD 3) (va_Pc [.ref (ea E 0), .int a0, .int a1, .int a2, .int a3] (preW true E σ sz)) (QI true E rr sr sz) 0 0 (aW true E sz) := by
  refine r_entry (QI true E rr sr) hj (by decide) [.ref (ea E 0), .int a0, .int a1, .int a2, .int a3] (Nat.le_of_ble_eq_true rfl) (fun p e s m args below meth c C => ?_)
  intro H locs ls hP hS hl
  have hl : lv_has ls 6 [(0, .ref (ea E 0)), (1, .int a0), (2, .int a1), (3, .int a2), (4, .int a3)] := hl
  obtain ⟨hx, hb, hr, hml, hown, hts, hlocks, hK, hX, hj⟩ := id C
  unfold fX10_place at hf
  refine lv_iload_n hx hb dX10_place_0 rfl (lv_at hl 2 rfl) ?_
  refine lv_iload_n hx hb dX10_place_1 rfl (lv_at hl 3 rfl) ?_
  refine lv_iload hx hb dX10_place_2 (lv_at hl 4 rfl) ?_
  refine r_cSi (n := 3) (As := [.int a1, .int a2, .int a3]) (rest := []) C (c_fX10_heapCell hj σ H.size a1 a2 a3) gs_RX10_96 (by decide +kernel) (rmD_le (by decide) (by decide)) rfl rfl (Nat.le_of_ble_eq_true rfl) dX10_place_4 hP hS hl.1 (fun H locs hP hS => ?_)
  refine lv_istore (lv' := [(5, .int (fX10_heapCell a1 a2 a3)), (0, .ref (ea E 0)), (1, .int a0), (2, .int a1), (3, .int a2), (4, .int a3)]) hx hb dX10_place_7 hl (by decide) rfl (fun ls hl => ?_)
  refine lv_iload hx hb dX10_place_9 (lv_at hl 0 rfl) ?_
  refine lv_iconst (v := (-1)) hx hb dX10_place_11 (by decide) ?_
  refine lv_icmp_eq (tgt := 32) hx hb dX10_place_12 (by decide) (fun c1 => ?_) (fun c1 => ?_)
  · replace hf := it_t c1 hf
    refine lv_iconst (v := 0) hx hb dX10_place_32 (by decide) ?_
    cases hf
    exact r_zret C rfl hP hS dX10_place_33
  · replace hf := it_f c1 hf
    refine lv_aload_n hx hb dX10_place_15 rfl (lv_at hl 1 rfl) ?_
    refine r_get (k := 8) (v := .ref (ea E 38)) C hP oC_0 rfl iX10 (by decide) wm_t302 rfl rfl dX10_place_16 ?_
    refine lv_iload_n hx hb dX10_place_19 rfl (lv_at hl 2 rfl) ?_
    refine lv_iload hx hb dX10_place_20 (lv_at hl 0 rfl) ?_
    obtain ⟨r2, σ4, hc3, hf⟩ := cb_e hf
    refine r_cVi (n := 2) (As := [.int a0, .int (fX10_heapCell a1 a2 a3)]) (rest := []) C (c_fX3_tell hj σ H.size a0 (fX10_heapCell a1 a2 a3) hc3) oC_38 rfl gv_RX10_264 (by decide +kernel) (rmD_le (by decide) (by decide)) rfl rfl (Nat.le_of_ble_eq_true rfl) dX10_place_22 hP hS hl.1 (fun H locs hP hS => ?_)
    refine lv_if_eq (tgt := 32) hx hb dX10_place_25 (by decide) (fun c5 => ?_) (fun c5 => ?_)
    · replace hf := it_t c5 hf
      refine lv_iconst (v := 0) hx hb dX10_place_32 (by decide) ?_
      cases hf
      exact r_zret C rfl hP hS dX10_place_33
    · replace hf := it_f c5 hf
      refine lv_iconst (v := 1) hx hb dX10_place_28 (by decide) ?_
      refine lv_goto (tgt := 33) hx hb dX10_place_29 (by decide) ?_
      cases hf
      exact r_zret C rfl hP hS dX10_place_33
def fX10_list (σ : St) (a0 : Int32) (a1 : Int32) (a2 : Int32) (a3 : Int32) : Option (Int32 × St) :=
(cb (fX6_add σ a0 a1 a2 a3) fun r1 σ3 =>
some (r1, σ3))
set_option maxHeartbeats 4000000 in
theorem c_fX10_list {E : Ev} {l : Launch} (hj : jW true E) (σ : St) (sz : Nat) (a0 : Int32) (a1 : Int32) (a2 : Int32) (a3 : Int32) {rr : Int32} {sr : St} (hf : fX10_list σ a0 a1 a2 a3 = some (rr, sr)) : Met l yX10_list (Cond.code yX10_list cX10_list 5 (some .int) :: gT) (rmD 3) (va_Pc [.ref (ea E 0), .int a0, .int a1, .int a2, .int a3] (preW true E σ sz)) (QI true E rr sr sz) 0 0 (aW true E sz) := by
  refine r_entry (QI true E rr sr) hj (by decide) [.ref (ea E 0), .int a0, .int a1, .int a2, .int a3] (Nat.le_of_ble_eq_true rfl) (fun p e s m args below meth c C => ?_)
  intro H locs ls hP hS hl
  have hl : lv_has ls 5 [(0, .ref (ea E 0)), (1, .int a0), (2, .int a1), (3, .int a2), (4, .int a3)] := hl
  obtain ⟨hx, hb, hr, hml, hown, hts, hlocks, hK, hX, hj⟩ := id C
  unfold fX10_list at hf
  refine lv_aload_n hx hb dX10_list_0 rfl (lv_at hl 0 rfl) ?_
  refine r_get (k := 9) (v := .ref (ea E 41)) C hP oC_0 rfl iX10 (by decide) wm_t303 rfl rfl dX10_list_1 ?_
  refine lv_iload_n hx hb dX10_list_4 rfl (lv_at hl 1 rfl) ?_
  refine lv_iload_n hx hb dX10_list_5 rfl (lv_at hl 2 rfl) ?_
  refine lv_iload_n hx hb dX10_list_6 rfl (lv_at hl 3 rfl) ?_
  refine lv_iload hx hb dX10_list_7 (lv_at hl 4 rfl) ?_
  obtain ⟨r1, σ3, hc2, hf⟩ := cb_e hf
  refine r_cVi (n := 4) (As := [.int a0, .int a1, .int a2, .int a3]) (rest := []) C (c_fX6_add hj σ H.size a0 a1 a2 a3 hc2) oC_41 rfl gv_RX10_304 (by decide +kernel) (rmD_le (by decide) (by decide)) rfl rfl (Nat.le_of_ble_eq_true rfl) dX10_list_9 hP hS hl.1 (fun H locs hP hS => ?_)
  cases hf
  exact r_iret C hP hS dX10_list_12
def fX10_risk_49 (σ : St) (x4 : Int32) (y0 : Int32) : Option Int32 :=
(if y0 = (-1) then
some (-1)
else
some ((y0 + 1) + x4))
set_option maxHeartbeats 4000000 in
theorem b_fX10_risk_49 {E : Ev} {l : Launch} {p : Program} {e : Env} {s : State} {m : MethodId} {args : Array Value} {below : List Frame} {meth : Method} {c : Code} (σ : St) (C : CX true E RX10 cX10_risk 6 (some .int) p s m args meth c) {rr : Int32} : ∀  (x4 : Int32) (y0 : Int32), fX10_risk_49 σ x4 y0 = some rr → GW true l (rmD 4) E 6 p e s m args below meth c (MQ below (QI true E rr σ s.heap.size) args s 0 0 (aW true E s.heap.size)) σ 49 [(4, .int x4)] [.int y0] := by
  intro x4 y0 hf H locs ls hP hS hl
  obtain ⟨hx, hb, hr, hml, hown, hts, hlocks, hK, hX, hj⟩ := id C
  unfold fX10_risk_49 at hf
  refine lv_istore (lv' := [(5, .int y0), (4, .int x4)]) hx hb dX10_risk_49 hl (by decide) rfl (fun ls hl => ?_)
  refine lv_iload hx hb dX10_risk_51 (lv_at hl 0 rfl) ?_
  refine lv_iconst (v := (-1)) hx hb dX10_risk_53 (by decide) ?_
  refine lv_icmp_ne (tgt := 61) hx hb dX10_risk_54 (by decide) (fun c1 => ?_) (fun c1 => ?_)
  · replace hf := it_f c1 hf
    refine lv_iload hx hb dX10_risk_61 (lv_at hl 0 rfl) ?_
    refine lv_iconst (v := 1) hx hb dX10_risk_63 (by decide) ?_
    refine lv_iadd hx hb dX10_risk_64 ?_
    refine lv_iload hx hb dX10_risk_65 (lv_at hl 1 rfl) ?_
    refine lv_iadd hx hb dX10_risk_67 ?_
    cases hf
    exact r_iret C hP hS dX10_risk_68
  · replace hf := it_t c1 hf
    refine lv_iconst (v := (-1)) hx hb dX10_risk_57 (by decide) ?_
    refine lv_goto (tgt := 68) hx hb dX10_risk_58 (by decide) ?_
    cases hf
    exact r_iret C hP hS dX10_risk_68
def fX10_risk_42 (σ : St) (x4 : Int32) (y0 : Int32) (y1 : Int32) (y2 : Int32) (y3 : Int32) : Option Int32 :=
(cq (fX6_countOf σ y3 y2 y1 y0) fun r1 =>
fX10_risk_49 σ x4 r1)
set_option maxHeartbeats 4000000 in
theorem b_fX10_risk_42 {E : Ev} {l : Launch} {p : Program} {e : Env} {s : State} {m : MethodId} {args : Array Value} {below : List Frame} {meth : Method} {c : Code} (σ : St) (C : CX true E RX10 cX10_risk 6 (some .int) p s m args meth c) {rr : Int32} : ∀  (x4 : Int32) (y0 : Int32) (y1 : Int32) (y2 : Int32) (y3 : Int32), fX10_risk_42 σ x4 y0 y1 y2 y3 = some rr → GW true l (rmD 4) E 6 p e s m args below meth c (MQ below (QI true E rr σ s.heap.size) args s 0 0 (aW true E s.heap.size)) σ 42 [(4, .int x4)] [.int y0, .int y1, .int y2, .int y3, .ref (ea E 41)] := by
  intro x4 y0 y1 y2 y3 hf H locs ls hP hS hl
  obtain ⟨hx, hb, hr, hml, hown, hts, hlocks, hK, hX, hj⟩ := id C
  unfold fX10_risk_42 at hf
  obtain ⟨r1, hc2, hf⟩ := cq_e hf
  refine r_cVi (n := 4) (As := [.int y3, .int y2, .int y1, .int y0]) (rest := []) C (c_fX6_countOf hj σ H.size y3 y2 y1 y0 hc2) oC_41 rfl gv_RX10_311 (by decide +kernel) (rmD_le (by decide) (by decide)) rfl rfl (Nat.le_of_ble_eq_true rfl) dX10_risk_42 hP hS hl.1 (fun H locs hP hS => ?_)
  refine lv_goto (tgt := 49) hx hb dX10_risk_45 (by decide) ?_
  exact b_fX10_risk_49 σ C x4 r1 hf H locs ls hP hS (lv_sub hl [0] rfl)
def fX10_risk_25 (σ : St) (x1 : Int32) (x2 : Int32) (x3 : Int32) (x4 : Int32) : Option Int32 :=
(if x4 = 0 then
fX10_risk_42 σ x4 1 x3 x2 x1
else
fX10_risk_42 σ x4 0 x3 x2 x1)
set_option maxHeartbeats 4000000 in
theorem b_fX10_risk_25 {E : Ev} {l : Launch} {p : Program} {e : Env} {s : State} {m : MethodId} {args : Array Value} {below : List Frame} {meth : Method} {c : Code} (σ : St) (C : CX true E RX10 cX10_risk 6 (some .int) p s m args meth c) {rr : Int32} : ∀  (x1 : Int32) (x2 : Int32) (x3 : Int32) (x4 : Int32), fX10_risk_25 σ x1 x2 x3 x4 = some rr → GW true l (rmD 4) E 6 p e s m args below meth c (MQ below (QI true E rr σ s.heap.size) args s 0 0 (aW true E s.heap.size)) σ 25 [(0, .ref (ea E 0)), (1, .int x1), (2, .int x2), (3, .int x3), (4, .int x4)] [] := by
  intro x1 x2 x3 x4 hf H locs ls hP hS hl
  obtain ⟨hx, hb, hr, hml, hown, hts, hlocks, hK, hX, hj⟩ := id C
  unfold fX10_risk_25 at hf
  refine lv_aload_n hx hb dX10_risk_25 rfl (lv_at hl 0 rfl) ?_
  refine r_get (k := 9) (v := .ref (ea E 41)) C hP oC_0 rfl iX10 (by decide) wm_t303 rfl rfl dX10_risk_26 ?_
  refine lv_iload_n hx hb dX10_risk_29 rfl (lv_at hl 1 rfl) ?_
  refine lv_iload_n hx hb dX10_risk_30 rfl (lv_at hl 2 rfl) ?_
  refine lv_iload_n hx hb dX10_risk_31 rfl (lv_at hl 3 rfl) ?_
  refine lv_iload hx hb dX10_risk_32 (lv_at hl 4 rfl) ?_
  refine lv_if_ne (tgt := 41) hx hb dX10_risk_34 (by decide) (fun c1 => ?_) (fun c1 => ?_)
  · replace hf := it_f c1 hf
    refine lv_iconst (v := 0) hx hb dX10_risk_41 (by decide) ?_
    exact b_fX10_risk_42 σ C x4 0 x3 x2 x1 hf H locs ls hP hS (lv_sub hl [4] rfl)
  · replace hf := it_t c1 hf
    refine lv_iconst (v := 1) hx hb dX10_risk_37 (by decide) ?_
    refine lv_goto (tgt := 42) hx hb dX10_risk_38 (by decide) ?_
    exact b_fX10_risk_42 σ C x4 1 x3 x2 x1 hf H locs ls hP hS (lv_sub hl [4] rfl)
def fX10_risk (σ : St) (a0 : Int32) (a1 : Int32) (a2 : Int32) (a3 : Int32) : Option Int32 :=
(if a3 = 2 then
(cq (fX6_worstHarbour σ) fun r4 =>
some r4)
else
(if a3 = 0 then
fX10_risk_25 σ a0 a1 a2 a3
else
(if a3 = 1 then
fX10_risk_25 σ a0 a1 a2 a3
else
fX10_risk_49 σ a3 (-1))))
set_option maxHeartbeats 4000000 in
theorem c_fX10_risk {E : Ev} {l : Launch} (hj : jW true E) (σ : St) (sz : Nat) (a0 : Int32) (a1 : Int32) (a2 : Int32) (a3 : Int32) {rr : Int32} (hf : fX10_risk σ a0 a1 a2 a3 = some rr) : Met l yX10_risk (Cond.code yX10_risk cX10_risk 6 (some .int) :: gT) (rmD 4) (va_Pc [.ref (ea E 0), .int a0, .int a1, .int a2, .int a3] (preW true E σ sz)) (QI true E rr σ sz) 0 0 (aW true E sz) := by
  refine r_entry (QI true E rr σ) hj (by decide) [.ref (ea E 0), .int a0, .int a1, .int a2, .int a3] (Nat.le_of_ble_eq_true rfl) (fun p e s m args below meth c C => ?_)
  intro H locs ls hP hS hl
  have hl : lv_has ls 6 [(0, .ref (ea E 0)), (1, .int a0), (2, .int a1), (3, .int a2), (4, .int a3)] := hl
  obtain ⟨hx, hb, hr, hml, hown, hts, hlocks, hK, hX, hj⟩ := id C
  unfold fX10_risk at hf
  refine lv_iload hx hb dX10_risk_0 (lv_at hl 4 rfl) ?_
  refine lv_iconst (v := 2) hx hb dX10_risk_2 (by decide) ?_
  refine lv_icmp_ne (tgt := 14) hx hb dX10_risk_3 (by decide) (fun c1 => ?_) (fun c1 => ?_)
  · replace hf := it_f c1 hf
    refine lv_iload hx hb dX10_risk_14 (lv_at hl 4 rfl) ?_
    refine lv_if_eq (tgt := 25) hx hb dX10_risk_16 (by decide) (fun c2 => ?_) (fun c2 => ?_)
    · replace hf := it_t c2 hf
      exact b_fX10_risk_25 σ C a0 a1 a2 a3 hf H locs ls hP hS (lv_sub hl [0, 1, 2, 3, 4] rfl)
    · replace hf := it_f c2 hf
      refine lv_iload hx hb dX10_risk_19 (lv_at hl 4 rfl) ?_
      refine lv_iconst (v := 1) hx hb dX10_risk_21 (by decide) ?_
      refine lv_icmp_ne (tgt := 48) hx hb dX10_risk_22 (by decide) (fun c3 => ?_) (fun c3 => ?_)
      · replace hf := it_f c3 hf
        refine lv_iconst (v := (-1)) hx hb dX10_risk_48 (by decide) ?_
        exact b_fX10_risk_49 σ C a3 (-1) hf H locs ls hP hS (lv_sub hl [4] rfl)
      · replace hf := it_t c3 hf
        exact b_fX10_risk_25 σ C a0 a1 a2 a3 hf H locs ls hP hS (lv_sub hl [0, 1, 2, 3, 4] rfl)
  · replace hf := it_t c1 hf
    refine lv_aload_n hx hb dX10_risk_6 rfl (lv_at hl 0 rfl) ?_
    refine r_get (k := 9) (v := .ref (ea E 41)) C hP oC_0 rfl iX10 (by decide) wm_t303 rfl rfl dX10_risk_7 ?_
    obtain ⟨r4, hc5, hf⟩ := cq_e hf
    refine r_cVi (n := 0) (As := []) (rest := []) C (c_fX6_worstHarbour hj σ H.size hc5) oC_41 rfl gv_RX10_308 (by decide +kernel) (rmD_le (by decide) (by decide)) rfl rfl (Nat.le_of_ble_eq_true rfl) dX10_risk_10 hP hS hl.1 (fun H locs hP hS => ?_)
    cases hf
    exact r_iret C hP hS dX10_risk_13
