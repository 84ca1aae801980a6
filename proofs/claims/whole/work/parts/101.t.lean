def fX4_fail_29 (σ : St) (y0 : Int32) : Option (Int32 × St) :=
(nmS (st_put σ 24 9 y0) fun σ1 =>
some (0, σ1))
set_option maxHeartbeats 4000000 in
theorem b_fX4_fail_29 {E : Ev} {l : Launch} {p : Program} {e : Env} {s : State} {m : MethodId} {args : Array Value} {below : List Frame} {meth : Method} {c : Code} (C : CX true E RX4 cX4_fail 2 (some .boolean) p s m args meth c) {rr : Int32} {sr : St} : ∀ (σ : St) (y0 : Int32), fX4_fail_29 σ y0 = some (rr, sr) → GW true l (rmD 1) E 2 p e s m args below meth c (MQ below (QI true E rr sr s.heap.size) args s 0 0 (aW true E s.heap.size)) σ 29 [] [.int y0, .ref (ea E 24)] := by
  intro σ y0 hf H locs ls hP hS hl
  obtain ⟨hx, hb, hr, hml, hown, hts, hlocks, hK, hX, hj⟩ := id C
  unfold fX4_fail_29 at hf
  refine r_put (k := 9) (x := y0) C hP hS tyX4 tyX4_ok nmX4 oC_24 rfl iX4 (by decide) wm_t172 rfl rfl sC_24_9 rfl rfl (Nat.le_of_ble_eq_true rfl) dX4_fail_29 (fun H locs hP hS => ?_)
  obtain ⟨σ1, eσ1, hf⟩ := nmS_e hf
  rw [← eσ1] at hP
  refine lv_iconst (v := 0) hx hb dX4_fail_32 (by decide) ?_
  cases hf
  exact r_zret C rfl hP hS dX4_fail_33
def fX4_fail (σ : St) (a0 : Int32) : Option (Int32 × St) :=
(nmS (st_put σ 24 8 a0) fun σ1 =>
(if 600 < (σ1 24 4) then
fX4_fail_29 σ1 (-1)
else
(rdK 601 (σ1 27) (σ1 24 4) fun v3 =>
fX4_fail_29 σ1 v3)))
set_option maxHeartbeats 4000000 in
theorem c_fX4_fail {E : Ev} {l : Launch} (hj : jW true E) (σ : St) (sz : Nat) (a0 : Int32) {rr : Int32} {sr : St} (hf : fX4_fail σ a0 = some (rr, sr)) : Met l yX4_fail (Cond.code yX4_fail cX4_fail 2 (some .boolean) :: gT) (rmD 1) (va_Pc [.ref (ea E 24), .int a0] (preW true E σ sz)) (QI true E rr sr sz) 0 0 (aW true E sz) := by
  refine r_entry (QI true E rr sr) hj (by decide) [.ref (ea E 24), .int a0] (Nat.le_of_ble_eq_true rfl) (fun p e s m args below meth c C => ?_)
  intro H locs ls hP hS hl
  have hl : lv_has ls 2 [(0, .ref (ea E 24)), (1, .int a0)] := hl
  obtain ⟨hx, hb, hr, hml, hown, hts, hlocks, hK, hX, hj⟩ := id C
  unfold fX4_fail at hf
  refine lv_aload_n hx hb dX4_fail_0 rfl (lv_at hl 0 rfl) ?_
  refine lv_iload_n hx hb dX4_fail_1 rfl (lv_at hl 1 rfl) ?_
  refine r_put (k := 8) (x := a0) C hP hS tyX4 tyX4_ok nmX4 oC_24 rfl iX4 (by decide) wm_t170 rfl rfl sC_24_8 rfl rfl (Nat.le_of_ble_eq_true rfl) dX4_fail_2 (fun H locs hP hS => ?_)
  obtain ⟨σ1, eσ1, hf⟩ := nmS_e hf
  rw [← eσ1] at hP
  refine lv_aload_n hx hb dX4_fail_5 rfl (lv_at hl 0 rfl) ?_
  refine lv_aload_n hx hb dX4_fail_6 rfl (lv_at hl 0 rfl) ?_
  refine r_get (k := 4) (v := .int (σ1 24 4)) C hP oC_24 rfl iX4 (by decide) wm_t166 rfl rfl dX4_fail_7 ?_
  refine lv_sipush (v := 600) hx hb dX4_fail_10 (by decide) ?_
  refine lv_icmp_gt (tgt := 28) hx hb dX4_fail_13 (by decide) (fun c2 => ?_) (fun c2 => ?_)
  · replace hf := it_t c2 hf
    refine lv_iconst (v := (-1)) hx hb dX4_fail_28 (by decide) ?_
    exact b_fX4_fail_29 C σ1 (-1) hf H locs ls hP hS (lv_sub hl [] rfl)
  · replace hf := it_f c2 hf
    refine lv_aload_n hx hb dX4_fail_16 rfl (lv_at hl 0 rfl) ?_
    refine r_get (k := 3) (v := .ref (ea E 27)) C hP oC_24 rfl iX4 (by decide) wm_t165 rfl rfl dX4_fail_17 ?_
    refine lv_aload_n hx hb dX4_fail_20 rfl (lv_at hl 0 rfl) ?_
    refine r_get (k := 4) (v := .int (σ1 24 4)) C hP oC_24 rfl iX4 (by decide) wm_t166 rfl rfl dX4_fail_21 ?_
    have h4 := (rdK_e hf).1
    refine r_ald C hP aC_27 h4 dX4_fail_24 ?_
    refine lv_topi (fun v3 ev3 => ?_)
    replace hf := rdK_n ev3 hf
    refine lv_goto (tgt := 29) hx hb dX4_fail_25 (by decide) ?_
    exact b_fX4_fail_29 C σ1 v3 hf H locs ls hP hS (lv_sub hl [] rfl)
def fX4_headKinds (σ : St) : Int32 :=
(if (σ 24 6) = 0 then
3
else
4)
set_option maxHeartbeats 4000000 in
theorem c_fX4_headKinds {E : Ev} {l : Launch} (hj : jW true E) (σ : St) (sz : Nat) : Met l yX4_headKinds (Cond.code yX4_headKinds cX4_headKinds 1 (some .int) :: gT) (rmD 1) (va_Pc [.ref (ea E 24)] (preW true E σ sz)) (QI true E (fX4_headKinds σ) σ sz) 0 0 (aW true E sz) := by
  refine r_entry (QI true E (fX4_headKinds σ) σ) hj (by decide) [.ref (ea E 24)] (Nat.le_of_ble_eq_true rfl) (fun p e s m args below meth c C => ?_)
  intro H locs ls hP hS hl
  have hl : lv_has ls 1 [(0, .ref (ea E 24))] := hl
  obtain ⟨hx, hb, hr, hml, hown, hts, hlocks, hK, hX, hj⟩ := id C
  generalize hf : fX4_headKinds σ = rr
  unfold fX4_headKinds at hf
  refine lv_aload_n hx hb dX4_headKinds_0 rfl (lv_at hl 0 rfl) ?_
  refine r_get (k := 6) (v := .int (σ 24 6)) C hP oC_24 rfl iX4 (by decide) wm_t168 rfl rfl dX4_headKinds_1 ?_
  refine lv_if_eq (tgt := 11) hx hb dX4_headKinds_4 (by decide) (fun c1 => ?_) (fun c1 => ?_)
  · replace hf := it_t c1 hf
    refine lv_iconst (v := 3) hx hb dX4_headKinds_11 (by decide) ?_
    subst hf
    exact r_iret C hP hS dX4_headKinds_12
  · replace hf := it_f c1 hf
    refine lv_iconst (v := 4) hx hb dX4_headKinds_7 (by decide) ?_
    refine lv_goto (tgt := 12) hx hb dX4_headKinds_8 (by decide) ?_
    subst hf
    exact r_iret C hP hS dX4_headKinds_12
def fX5_heft (b : Nat) (σ : St) (a0 : Int32) : Option Int32 :=
(rdK (stN (b + 2)) (σ ((b + 2) + 1)) a0 fun v1 =>
(rdK (stN (b + 2)) (σ ((b + 2) + 2)) a0 fun v3 =>
some ((10 * v1) + v3)))
set_option maxHeartbeats 4000000 in
theorem c_fX5_heft {E : Ev} {l : Launch} {b : Nat} (hfb : fV b) (hj : jW true E) (σ : St) (sz : Nat) (a0 : Int32) {rr : Int32} (hf : fX5_heft b σ a0 = some rr) : Met l yX5_heft (Cond.code yX5_heft cX5_heft 2 (some .int) :: gT) (rmD 1) (va_Pc [.ref (ea E b), .int a0] (preW true E σ sz)) (QI true E rr σ sz) 0 0 (aW true E sz) := by
  refine r_entry (QI true E rr σ) hj (by decide) [.ref (ea E b), .int a0] (Nat.le_of_ble_eq_true rfl) (fun p e s m args below meth c C => ?_)
  intro H locs ls hP hS hl
  have hl : lv_has ls 2 [(0, .ref (ea E b)), (1, .int a0)] := hl
  obtain ⟨hx, hb, hr, hml, hown, hts, hlocks, hK, hX, hj⟩ := id C
  unfold fX5_heft at hf
  refine lv_bipush (v := 10) hx hb dX5_heft_0 (by decide) ?_
  refine lv_aload_n hx hb dX5_heft_2 rfl (lv_at hl 0 rfl) ?_
  refine r_get (k := 0) (v := .ref (ea E (b + 2))) C hP (oV hfb) rfl iX5 (by decide) wm_t94 rfl rfl dX5_heft_3 ?_
  refine r_get (k := 3) (v := .ref (ea E ((b + 2) + 1))) C hP (oS (fV_S hfb)) rfl iX8 (by decide) wm_t58 rfl rfl dX5_heft_6 ?_
  refine lv_iload_n hx hb dX5_heft_9 rfl (lv_at hl 1 rfl) ?_
  have h2 := (rdK_e hf).1
  refine r_ald C hP (aS_1 (fV_S hfb)) h2 dX5_heft_10 ?_
  refine lv_topi (fun v1 ev1 => ?_)
  replace hf := rdK_n ev1 hf
  refine lv_imul hx hb dX5_heft_11 ?_
  refine lv_aload_n hx hb dX5_heft_12 rfl (lv_at hl 0 rfl) ?_
  refine r_get (k := 0) (v := .ref (ea E (b + 2))) C hP (oV hfb) rfl iX5 (by decide) wm_t94 rfl rfl dX5_heft_13 ?_
  refine r_get (k := 4) (v := .ref (ea E ((b + 2) + 2))) C hP (oS (fV_S hfb)) rfl iX8 (by decide) wm_t62 rfl rfl dX5_heft_16 ?_
  refine lv_iload_n hx hb dX5_heft_19 rfl (lv_at hl 1 rfl) ?_
  have h4 := (rdK_e hf).1
  refine r_ald C hP (aS_2 (fV_S hfb)) h4 dX5_heft_20 ?_
  refine lv_topi (fun v3 ev3 => ?_)
  replace hf := rdK_n ev3 hf
  refine lv_iadd hx hb dX5_heft_21 ?_
  cases hf
  exact r_iret C hP hS dX5_heft_22
def fX5_roll (b : Nat) (σ : St) (a0 : Int32) : Option (Int32 × St) :=
(nmS (st_put σ b 4 ((1664525 * (σ b 4)) + 1013904223)) fun σ1 =>
some ((a0 * (((σ1 b 4).toUInt32 >>> ((30 : Int32).toUInt32 &&& Int32.toUInt32 31)).toInt32)), σ1))
set_option maxHeartbeats 4000000 in
theorem c_fX5_roll {E : Ev} {l : Launch} {b : Nat} (hfb : fV b) (hj : jW true E) (σ : St) (sz : Nat) (a0 : Int32) {rr : Int32} {sr : St} (hf : fX5_roll b σ a0 = some (rr, sr)) : Met l yX5_roll (Cond.code yX5_roll cX5_roll 2 (some .int) :: gT) (rmD 1) (va_Pc [.ref (ea E b), .int a0] (preW true E σ sz)) (QI true E rr sr sz) 0 0 (aW true E sz) := by
  refine r_entry (QI true E rr sr) hj (by decide) [.ref (ea E b), .int a0] (Nat.le_of_ble_eq_true rfl) (fun p e s m args below meth c C => ?_)
  intro H locs ls hP hS hl
  have hl : lv_has ls 2 [(0, .ref (ea E b)), (1, .int a0)] := hl
  obtain ⟨hx, hb, hr, hml, hown, hts, hlocks, hK, hX, hj⟩ := id C
  unfold fX5_roll at hf
  refine lv_aload_n hx hb dX5_roll_0 rfl (lv_at hl 0 rfl) ?_
  refine lv_ldc (v := 1664525) hx hb hown (hts _ wm_t754) dX5_roll_1 ?_
  refine lv_aload_n hx hb dX5_roll_3 rfl (lv_at hl 0 rfl) ?_
  refine r_get (k := 4) (v := .int (σ b 4)) C hP (oV hfb) rfl iX5 (by decide) wm_t100 rfl rfl dX5_roll_4 ?_
  refine lv_imul hx hb dX5_roll_7 ?_
  refine lv_ldc (v := 1013904223) hx hb hown (hts _ wm_t755) dX5_roll_8 ?_
  refine lv_iadd hx hb dX5_roll_10 ?_
  refine r_put (k := 4) (x := ((1664525 * (σ b 4)) + 1013904223)) C hP hS tyX5 tyX5_ok nmX5 (oV hfb) rfl iX5 (by decide) wm_t100 rfl rfl sV_4 rfl rfl (Nat.le_of_ble_eq_true rfl) dX5_roll_11 (fun H locs hP hS => ?_)
  obtain ⟨σ1, eσ1, hf⟩ := nmS_e hf
  rw [← eσ1] at hP
  refine lv_iload_n hx hb dX5_roll_14 rfl (lv_at hl 1 rfl) ?_
  refine lv_aload_n hx hb dX5_roll_15 rfl (lv_at hl 0 rfl) ?_
  refine r_get (k := 4) (v := .int (σ1 b 4)) C hP (oV hfb) rfl iX5 (by decide) wm_t100 rfl rfl dX5_roll_16 ?_
  refine lv_bipush (v := 30) hx hb dX5_roll_19 (by decide) ?_
  refine lv_iushr (v := ((σ1 b 4).toUInt32 >>> ((30 : Int32).toUInt32 &&& Int32.toUInt32 31)).toInt32) hx hb dX5_roll_21 rfl ?_
  refine lv_imul hx hb dX5_roll_22 ?_
  cases hf
  exact r_iret C hP hS dX5_roll_23
def fX6_fits (a0 : Int32) (a1 : Int32) : Int32 :=
(if a0 = (-1) then
1
else
(if a0 = a1 then
1
else
0))
set_option maxHeartbeats 4000000 in
theorem c_fX6_fits {E : Ev} {l : Launch} (hj : jW true E) (σ : St) (sz : Nat) (a0 : Int32) (a1 : Int32) : Met l yX6_fits (Cond.code yX6_fits cX6_fits 2 (some .boolean) :: gT) (rmD 1) (va_Pc [.int a0, .int a1] (preW true E σ sz)) (QI true E (fX6_fits a0 a1) σ sz) 0 0 (aW true E sz) := by
  refine r_entry (QI true E (fX6_fits a0 a1) σ) hj (by decide) [.int a0, .int a1] (Nat.le_of_ble_eq_true rfl) (fun p e s m args below meth c C => ?_)
  intro H locs ls hP hS hl
  have hl : lv_has ls 2 [(0, .int a0), (1, .int a1)] := hl
  obtain ⟨hx, hb, hr, hml, hown, hts, hlocks, hK, hX, hj⟩ := id C
  generalize hf : fX6_fits a0 a1 = rr
  unfold fX6_fits at hf
  refine lv_iload_n hx hb dX6_fits_0 rfl (lv_at hl 0 rfl) ?_
  refine lv_iconst (v := (-1)) hx hb dX6_fits_1 (by decide) ?_
  refine lv_icmp_eq (tgt := 10) hx hb dX6_fits_2 (by decide) (fun c1 => ?_) (fun c1 => ?_)
  · replace hf := it_t c1 hf
    refine lv_iconst (v := 1) hx hb dX6_fits_10 (by decide) ?_
    refine lv_goto (tgt := 15) hx hb dX6_fits_11 (by decide) ?_
    subst hf
    exact r_zret C rfl hP hS dX6_fits_15
  · replace hf := it_f c1 hf
    refine lv_iload_n hx hb dX6_fits_5 rfl (lv_at hl 0 rfl) ?_
    refine lv_iload_n hx hb dX6_fits_6 rfl (lv_at hl 1 rfl) ?_
    refine lv_icmp_ne (tgt := 14) hx hb dX6_fits_7 (by decide) (fun c2 => ?_) (fun c2 => ?_)
    · replace hf := it_f c2 hf
      refine lv_iconst (v := 0) hx hb dX6_fits_14 (by decide) ?_
      subst hf
      exact r_zret C rfl hP hS dX6_fits_15
    · replace hf := it_t c2 hf
      refine lv_iconst (v := 1) hx hb dX6_fits_10 (by decide) ?_
      refine lv_goto (tgt := 15) hx hb dX6_fits_11 (by decide) ?_
      subst hf
      exact r_zret C rfl hP hS dX6_fits_15
theorem z_fX6_fits (a0 : Int32) (a1 : Int32) : fX6_fits a0 a1 = 0 ∨ fX6_fits a0 a1 = 1 := by
  unfold fX6_fits
  repeat' split
  all_goals first | exact Or.inl rfl | exact Or.inr rfl
def fX8_copyFrom (σ : St) : Option St :=
(nm (if (nI (stN (10 + 2))) < (nI (stN (17 + 2))) then (nI (stN (10 + 2))) else (nI (stN (17 + 2)))) fun v1 =>
(acK (stN (10 + 2)) (stN (17 + 2)) σ ((10 + 2) + 1) ((17 + 2) + 1) 0 0 v1 fun σ2 =>
(acK (stN (10 + 2)) (stN (17 + 2)) σ2 ((10 + 2) + 2) ((17 + 2) + 2) 0 0 v1 fun σ4 =>
(acK (stN (10 + 2)) (stN (17 + 2)) σ4 ((10 + 2) + 3) ((17 + 2) + 3) 0 0 v1 fun σ6 =>
(acK (stN (10 + 2)) (stN (17 + 2)) σ6 ((10 + 2) + 4) ((17 + 2) + 4) 0 0 v1 fun σ8 =>
(nmS (st_put σ8 (17 + 2) 7 (σ8 (10 + 2) 7)) fun σ10 =>
some σ10))))))
set_option maxHeartbeats 4000000 in
theorem c_fX8_copyFrom {E : Ev} {l : Launch} (hj : jW true E) (σ : St) (sz : Nat) {sr : St} (hf : fX8_copyFrom σ = some sr) : Met l yX8_copyFrom (Cond.code yX8_copyFrom cX8_copyFrom 3 none :: gT) (rmD 2) (va_Pc [.ref (ea E (17 + 2)), .ref (ea E (10 + 2))] (preW true E σ sz)) (QV true E sr sz) 0 0 (aW true E sz) := by
  refine r_entry (QV true E sr) hj (by decide) [.ref (ea E (17 + 2)), .ref (ea E (10 + 2))] (Nat.le_of_ble_eq_true rfl) (fun p e s m args below meth c C => ?_)
  intro H locs ls hP hS hl
  have hl : lv_has ls 3 [(0, .ref (ea E (17 + 2))), (1, .ref (ea E (10 + 2)))] := hl
  obtain ⟨hx, hb, hr, hml, hown, hts, hlocks, hK, hX, hj⟩ := id C
  unfold fX8_copyFrom at hf
  refine lv_aload_n hx hb dX8_copyFrom_0 rfl (lv_at hl 0 rfl) ?_
  refine r_get (k := 3) (v := .ref (ea E ((17 + 2) + 1))) C hP (oS (fV_S fV_17)) rfl iX8 (by decide) wm_t55 rfl rfl dX8_copyFrom_1 ?_
  refine r_alen (v := (nI (stN (17 + 2)))) C hP (aS_1 (fV_S fV_17)) rfl dX8_copyFrom_4 ?_
  refine lv_aload_n hx hb dX8_copyFrom_5 rfl (lv_at hl 1 rfl) ?_
  refine r_get (k := 3) (v := .ref (ea E ((10 + 2) + 1))) C hP (oS (fV_S fV_10)) rfl iX8 (by decide) wm_t55 rfl rfl dX8_copyFrom_6 ?_
  refine r_alen (v := (nI (stN (10 + 2)))) C hP (aS_1 (fV_S fV_10)) rfl dX8_copyFrom_9 ?_
  refine va_mmin hx hb (hml.trans hl.1.symm) hown (hts _ wm_t652) (hts _ wm_t505) (hts _ wm_t4) (hts _ wm_t506) (by decide) (Nat.le_of_ble_eq_true rfl) (Nat.zero_le _) (Nat.zero_le _) dX8_copyFrom_10 ?_
  refine lv_topi (fun v1 ev1 => ?_)
  replace hf := nm_i ev1 hf
  refine lv_istore_n (lv' := [(2, .int v1), (0, .ref (ea E (17 + 2))), (1, .ref (ea E (10 + 2)))]) hx hb dX8_copyFrom_13 rfl hl (by decide) rfl (fun ls hl => ?_)
  refine lv_aload_n hx hb dX8_copyFrom_14 rfl (lv_at hl 2 rfl) ?_
  refine r_get (k := 3) (v := .ref (ea E ((10 + 2) + 1))) C hP (oS (fV_S fV_10)) rfl iX8 (by decide) wm_t55 rfl rfl dX8_copyFrom_15 ?_
  refine lv_iconst (v := 0) hx hb dX8_copyFrom_18 (by decide) ?_
  refine lv_aload_n hx hb dX8_copyFrom_19 rfl (lv_at hl 1 rfl) ?_
  refine r_get (k := 3) (v := .ref (ea E ((17 + 2) + 1))) C hP (oS (fV_S fV_17)) rfl iX8 (by decide) wm_t55 rfl rfl dX8_copyFrom_20 ?_
  refine lv_iconst (v := 0) hx hb dX8_copyFrom_23 (by decide) ?_
  refine lv_iload_n hx hb dX8_copyFrom_24 rfl (lv_at hl 0 rfl) ?_
  obtain ⟨h3, σ2, eσ2, hf⟩ := acK_e hf
  refine r_acp C hP hS hl.1 wm_t984 wm_t986 wm_t985 wm_t20 (aS_1 (fV_S fV_10)) (aS_1 (fV_S fV_17)) h3 (by decide) (Nat.le_of_ble_eq_true rfl) dX8_copyFrom_25 (fun H locs hP hS => ?_)
  rw [← eσ2] at hP
  refine lv_aload_n hx hb dX8_copyFrom_28 rfl (lv_at hl 2 rfl) ?_
  refine r_get (k := 4) (v := .ref (ea E ((10 + 2) + 2))) C hP (oS (fV_S fV_10)) rfl iX8 (by decide) wm_t60 rfl rfl dX8_copyFrom_29 ?_
  refine lv_iconst (v := 0) hx hb dX8_copyFrom_32 (by decide) ?_
  refine lv_aload_n hx hb dX8_copyFrom_33 rfl (lv_at hl 1 rfl) ?_
  refine r_get (k := 4) (v := .ref (ea E ((17 + 2) + 2))) C hP (oS (fV_S fV_17)) rfl iX8 (by decide) wm_t60 rfl rfl dX8_copyFrom_34 ?_
  refine lv_iconst (v := 0) hx hb dX8_copyFrom_37 (by decide) ?_
  refine lv_iload_n hx hb dX8_copyFrom_38 rfl (lv_at hl 0 rfl) ?_
  obtain ⟨h5, σ4, eσ4, hf⟩ := acK_e hf
  refine r_acp C hP hS hl.1 wm_t984 wm_t986 wm_t985 wm_t20 (aS_2 (fV_S fV_10)) (aS_2 (fV_S fV_17)) h5 (by decide) (Nat.le_of_ble_eq_true rfl) dX8_copyFrom_39 (fun H locs hP hS => ?_)
  rw [← eσ4] at hP
  refine lv_aload_n hx hb dX8_copyFrom_42 rfl (lv_at hl 2 rfl) ?_
  refine r_get (k := 5) (v := .ref (ea E ((10 + 2) + 3))) C hP (oS (fV_S fV_10)) rfl iX8 (by decide) wm_t63 rfl rfl dX8_copyFrom_43 ?_
  refine lv_iconst (v := 0) hx hb dX8_copyFrom_46 (by decide) ?_
  refine lv_aload_n hx hb dX8_copyFrom_47 rfl (lv_at hl 1 rfl) ?_
  refine r_get (k := 5) (v := .ref (ea E ((17 + 2) + 3))) C hP (oS (fV_S fV_17)) rfl iX8 (by decide) wm_t63 rfl rfl dX8_copyFrom_48 ?_
  refine lv_iconst (v := 0) hx hb dX8_copyFrom_51 (by decide) ?_
  refine lv_iload_n hx hb dX8_copyFrom_52 rfl (lv_at hl 0 rfl) ?_
  obtain ⟨h7, σ6, eσ6, hf⟩ := acK_e hf
  refine r_acp C hP hS hl.1 wm_t984 wm_t986 wm_t985 wm_t20 (aS_3 (fV_S fV_10)) (aS_3 (fV_S fV_17)) h7 (by decide) (Nat.le_of_ble_eq_true rfl) dX8_copyFrom_53 (fun H locs hP hS => ?_)
  rw [← eσ6] at hP
  refine lv_aload_n hx hb dX8_copyFrom_56 rfl (lv_at hl 2 rfl) ?_
  refine r_get (k := 6) (v := .ref (ea E ((10 + 2) + 4))) C hP (oS (fV_S fV_10)) rfl iX8 (by decide) wm_t65 rfl rfl dX8_copyFrom_57 ?_
  refine lv_iconst (v := 0) hx hb dX8_copyFrom_60 (by decide) ?_
  refine lv_aload_n hx hb dX8_copyFrom_61 rfl (lv_at hl 1 rfl) ?_
  refine r_get (k := 6) (v := .ref (ea E ((17 + 2) + 4))) C hP (oS (fV_S fV_17)) rfl iX8 (by decide) wm_t65 rfl rfl dX8_copyFrom_62 ?_
  refine lv_iconst (v := 0) hx hb dX8_copyFrom_65 (by decide) ?_
  refine lv_iload_n hx hb dX8_copyFrom_66 rfl (lv_at hl 0 rfl) ?_
  obtain ⟨h9, σ8, eσ8, hf⟩ := acK_e hf
  refine r_acp C hP hS hl.1 wm_t984 wm_t986 wm_t985 wm_t20 (aS_4 (fV_S fV_10)) (aS_4 (fV_S fV_17)) h9 (by decide) (Nat.le_of_ble_eq_true rfl) dX8_copyFrom_67 (fun H locs hP hS => ?_)
  rw [← eσ8] at hP
  refine lv_aload_n hx hb dX8_copyFrom_70 rfl (lv_at hl 1 rfl) ?_
  refine lv_aload_n hx hb dX8_copyFrom_71 rfl (lv_at hl 2 rfl) ?_
  refine r_get (k := 7) (v := .int (σ8 (10 + 2) 7)) C hP (oS (fV_S fV_10)) rfl iX8 (by decide) wm_t67 rfl rfl dX8_copyFrom_72 ?_
  refine r_put (k := 7) (x := (σ8 (10 + 2) 7)) C hP hS tyX8 tyX8_ok nmX8 (oS (fV_S fV_17)) rfl iX8 (by decide) wm_t67 rfl rfl sS_7 rfl rfl (Nat.le_of_ble_eq_true rfl) dX8_copyFrom_75 (fun H locs hP hS => ?_)
  obtain ⟨σ10, eσ10, hf⟩ := nmS_e hf
  rw [← eσ10] at hP
  cases hf
  exact r_vret C hP hS dX8_copyFrom_78
def fX8_wetAt (b : Nat) (σ : St) (a0 : Int32) : Option Int32 :=
(rdK (stN b) (σ (b + 1)) a0 fun v1 =>
(if v1 ≤ 0 then
some 0
else
(rdK (stN b) (σ (b + 2)) a0 fun v4 =>
(rdK (stN b) (σ (b + 1)) a0 fun v6 =>
(nz v6 (
some (v4 / v6)))))))
set_option maxHeartbeats 4000000 in
theorem c_fX8_wetAt {E : Ev} {l : Launch} {b : Nat} (hfb : fS b) (hj : jW true E) (σ : St) (sz : Nat) (a0 : Int32) {rr : Int32} (hf : fX8_wetAt b σ a0 = some rr) : Met l yX8_wetAt (Cond.code yX8_wetAt cX8_wetAt 2 (some .int) :: gT) (rmD 1) (va_Pc [.ref (ea E b), .int a0] (preW true E σ sz)) (QI true E rr σ sz) 0 0 (aW true E sz) := by
  refine r_entry (QI true E rr σ) hj (by decide) [.ref (ea E b), .int a0] (Nat.le_of_ble_eq_true rfl) (fun p e s m args below meth c C => ?_)
  intro H locs ls hP hS hl
  have hl : lv_has ls 2 [(0, .ref (ea E b)), (1, .int a0)] := hl
  obtain ⟨hx, hb, hr, hml, hown, hts, hlocks, hK, hX, hj⟩ := id C
  unfold fX8_wetAt at hf
  refine lv_aload_n hx hb dX8_wetAt_0 rfl (lv_at hl 0 rfl) ?_
  refine r_get (k := 3) (v := .ref (ea E (b + 1))) C hP (oS hfb) rfl iX8 (by decide) wm_t55 rfl rfl dX8_wetAt_1 ?_
  refine lv_iload_n hx hb dX8_wetAt_4 rfl (lv_at hl 1 rfl) ?_
  have h2 := (rdK_e hf).1
  refine r_ald C hP (aS_1 hfb) h2 dX8_wetAt_5 ?_
  refine lv_topi (fun v1 ev1 => ?_)
  replace hf := rdK_n ev1 hf
  refine lv_if_le (tgt := 25) hx hb dX8_wetAt_6 (by decide) (fun c3 => ?_) (fun c3 => ?_)
  · replace hf := it_t c3 hf
    refine lv_iconst (v := 0) hx hb dX8_wetAt_25 (by decide) ?_
    cases hf
    exact r_iret C hP hS dX8_wetAt_26
  · replace hf := it_f c3 hf
    refine lv_aload_n hx hb dX8_wetAt_9 rfl (lv_at hl 0 rfl) ?_
    refine r_get (k := 4) (v := .ref (ea E (b + 2))) C hP (oS hfb) rfl iX8 (by decide) wm_t60 rfl rfl dX8_wetAt_10 ?_
    refine lv_iload_n hx hb dX8_wetAt_13 rfl (lv_at hl 1 rfl) ?_
    have h5 := (rdK_e hf).1
    refine r_ald C hP (aS_2 hfb) h5 dX8_wetAt_14 ?_
    refine lv_topi (fun v4 ev4 => ?_)
    replace hf := rdK_n ev4 hf
    refine lv_aload_n hx hb dX8_wetAt_15 rfl (lv_at hl 0 rfl) ?_
    refine r_get (k := 3) (v := .ref (ea E (b + 1))) C hP (oS hfb) rfl iX8 (by decide) wm_t55 rfl rfl dX8_wetAt_16 ?_
    refine lv_iload_n hx hb dX8_wetAt_19 rfl (lv_at hl 1 rfl) ?_
    have h7 := (rdK_e hf).1
    refine r_ald C hP (aS_1 hfb) h7 dX8_wetAt_20 ?_
    refine lv_topi (fun v6 ev6 => ?_)
    replace hf := rdK_n ev6 hf
    obtain ⟨h8, hf⟩ := nz_e hf
    refine lv_idiv hx hb dX8_wetAt_21 h8 ?_
    refine lv_goto (tgt := 26) hx hb dX8_wetAt_22 (by decide) ?_
    cases hf
    exact r_iret C hP hS dX8_wetAt_26
def fX8_cellsWithOre_4B (b : Nat) (σ : St) (rec4 : Int32 → Int32 → Option Int32) (x1 : Int32) (x2 : Int32) : Option Int32 :=
(if (nI (stN b)) ≤ x2 then
some x1
else
(rdK (stN b) (σ (b + 1)) x2 fun v2 =>
(if v2 ≤ 0 then
rec4 (x1 + 0) (x2 + 1)
else
rec4 (x1 + 1) (x2 + 1))))
set_option maxHeartbeats 4000000 in
theorem b_fX8_cellsWithOre_4B {E : Ev} {l : Launch} {p : Program} {e : Env} {s : State} {m : MethodId} {args : Array Value} {below : List Frame} {meth : Method} {c : Code} {b : Nat} (hfb : fS b) (σ : St) (C : CX true E RX8 cX8_cellsWithOre 3 (some .int) p s m args meth c) {rr : Int32} (rec4 : Int32 → Int32 → Option Int32) (hr4 : ∀  (x1 : Int32) (x2 : Int32), rec4 x1 x2 = some rr → GW true l (rmD 1) E 3 p e s m args below meth c (MQ below (QI true E rr σ s.heap.size) args s 0 0 (aW true E s.heap.size)) σ 4 [(0, .ref (ea E b)), (1, .int x1), (2, .int x2)] []) : ∀  (x1 : Int32) (x2 : Int32), fX8_cellsWithOre_4B b σ rec4 x1 x2 = some rr → GW true l (rmD 1) E 3 p e s m args below meth c (MQ below (QI true E rr σ s.heap.size) args s 0 0 (aW true E s.heap.size)) σ 4 [(0, .ref (ea E b)), (1, .int x1), (2, .int x2)] [] := by
  intro x1 x2 hf H locs ls hP hS hl
  obtain ⟨hx, hb, hr, hml, hown, hts, hlocks, hK, hX, hj⟩ := id C
  unfold fX8_cellsWithOre_4B at hf
  refine lv_iload_n hx hb dX8_cellsWithOre_4 rfl (lv_at hl 2 rfl) ?_
  refine lv_aload_n hx hb dX8_cellsWithOre_5 rfl (lv_at hl 0 rfl) ?_
  refine r_get (k := 3) (v := .ref (ea E (b + 1))) C hP (oS hfb) rfl iX8 (by decide) wm_t55 rfl rfl dX8_cellsWithOre_6 ?_
  refine r_alen (v := (nI (stN b))) C hP (aS_1 hfb) rfl dX8_cellsWithOre_9 ?_
  refine lv_icmp_ge (tgt := 36) hx hb dX8_cellsWithOre_10 (by decide) (fun c1 => ?_) (fun c1 => ?_)
  · replace hf := it_t c1 hf
    refine lv_iload_n hx hb dX8_cellsWithOre_36 rfl (lv_at hl 1 rfl) ?_
    cases hf
    exact r_iret C hP hS dX8_cellsWithOre_37
  · replace hf := it_f c1 hf
    refine lv_iload_n hx hb dX8_cellsWithOre_13 rfl (lv_at hl 1 rfl) ?_
    refine lv_aload_n hx hb dX8_cellsWithOre_14 rfl (lv_at hl 0 rfl) ?_
    refine r_get (k := 3) (v := .ref (ea E (b + 1))) C hP (oS hfb) rfl iX8 (by decide) wm_t55 rfl rfl dX8_cellsWithOre_15 ?_
    refine lv_iload_n hx hb dX8_cellsWithOre_18 rfl (lv_at hl 2 rfl) ?_
    have h3 := (rdK_e hf).1
    refine r_ald C hP (aS_1 hfb) h3 dX8_cellsWithOre_19 ?_
    refine lv_topi (fun v2 ev2 => ?_)
    replace hf := rdK_n ev2 hf
    refine lv_if_le (tgt := 27) hx hb dX8_cellsWithOre_20 (by decide) (fun c4 => ?_) (fun c4 => ?_)
    · replace hf := it_t c4 hf
      refine lv_iconst (v := 0) hx hb dX8_cellsWithOre_27 (by decide) ?_
      refine lv_iadd hx hb dX8_cellsWithOre_28 ?_
      refine lv_istore_n (lv' := [(1, .int (x1 + 0)), (0, .ref (ea E b)), (2, .int x2)]) hx hb dX8_cellsWithOre_29 rfl hl (by decide) rfl (fun ls hl => ?_)
      refine lv_iinc (v := (x2 + 1)) (lv' := [(2, .int (x2 + 1)), (1, .int (x1 + 0)), (0, .ref (ea E b))]) hx hb dX8_cellsWithOre_30 hl (k := 2) rfl rfl (by decide) rfl (fun ls hl => ?_)
      refine lv_goto (tgt := 4) hx hb dX8_cellsWithOre_33 (by decide) ?_
      exact hr4 (x1 + 0) (x2 + 1) hf H locs ls hP hS (lv_sub hl [2, 1, 0] rfl)
    · replace hf := it_f c4 hf
      refine lv_iconst (v := 1) hx hb dX8_cellsWithOre_23 (by decide) ?_
      refine lv_goto (tgt := 28) hx hb dX8_cellsWithOre_24 (by decide) ?_
      refine lv_iadd hx hb dX8_cellsWithOre_28 ?_
      refine lv_istore_n (lv' := [(1, .int (x1 + 1)), (0, .ref (ea E b)), (2, .int x2)]) hx hb dX8_cellsWithOre_29 rfl hl (by decide) rfl (fun ls hl => ?_)
      refine lv_iinc (v := (x2 + 1)) (lv' := [(2, .int (x2 + 1)), (1, .int (x1 + 1)), (0, .ref (ea E b))]) hx hb dX8_cellsWithOre_30 hl (k := 2) rfl rfl (by decide) rfl (fun ls hl => ?_)
      refine lv_goto (tgt := 4) hx hb dX8_cellsWithOre_33 (by decide) ?_
      exact hr4 (x1 + 1) (x2 + 1) hf H locs ls hP hS (lv_sub hl [2, 1, 0] rfl)
def fX8_cellsWithOre_4 (b : Nat) (σ : St) : Nat → Int32 → Int32 → Option Int32
  | 0 => fun _ _ => none
  | n + 1 => fun x1 x2 => fX8_cellsWithOre_4B b σ (fX8_cellsWithOre_4 b σ n) x1 x2
theorem b_fX8_cellsWithOre_4 {E : Ev} {l : Launch} {p : Program} {e : Env} {s : State} {m : MethodId} {args : Array Value} {below : List Frame} {meth : Method} {c : Code} {b : Nat} (hfb : fS b) (σ : St) (C : CX true E RX8 cX8_cellsWithOre 3 (some .int) p s m args meth c) {rr : Int32} : ∀ (n : Nat) (x1 : Int32) (x2 : Int32), fX8_cellsWithOre_4 b σ n x1 x2 = some rr → GW true l (rmD 1) E 3 p e s m args below meth c (MQ below (QI true E rr σ s.heap.size) args s 0 0 (aW true E s.heap.size)) σ 4 [(0, .ref (ea E b)), (1, .int x1), (2, .int x2)] [] := by
  intro n
  induction n with
  | zero => intro x1 x2 hf; have hf : (none : Option _) = some _ := hf; cases hf
  | succ n ih => intro x1 x2 hf; exact b_fX8_cellsWithOre_4B hfb σ C (fX8_cellsWithOre_4 b σ n) ih x1 x2 hf
def fX8_cellsWithOre (b : Nat) (σ : St) : Option Int32 :=
fX8_cellsWithOre_4 b σ FU 0 0
set_option maxHeartbeats 4000000 in
theorem c_fX8_cellsWithOre {E : Ev} {l : Launch} {b : Nat} (hfb : fS b) (hj : jW true E) (σ : St) (sz : Nat) {rr : Int32} (hf : fX8_cellsWithOre b σ = some rr) : Met l yX8_cellsWithOre (Cond.code yX8_cellsWithOre cX8_cellsWithOre 3 (some .int) :: gT) (rmD 1) (va_Pc [.ref (ea E b)] (preW true E σ sz)) (QI true E rr σ sz) 0 0 (aW true E sz) := by
  refine r_entry (QI true E rr σ) hj (by decide) [.ref (ea E b)] (Nat.le_of_ble_eq_true rfl) (fun p e s m args below meth c C => ?_)
  intro H locs ls hP hS hl
  have hl : lv_has ls 3 [(0, .ref (ea E b))] := hl
  obtain ⟨hx, hb, hr, hml, hown, hts, hlocks, hK, hX, hj⟩ := id C
  unfold fX8_cellsWithOre at hf
  refine lv_iconst (v := 0) hx hb dX8_cellsWithOre_0 (by decide) ?_
  refine lv_istore_n (lv' := [(1, .int 0), (0, .ref (ea E b))]) hx hb dX8_cellsWithOre_1 rfl hl (by decide) rfl (fun ls hl => ?_)
  refine lv_iconst (v := 0) hx hb dX8_cellsWithOre_2 (by decide) ?_
  refine lv_istore_n (lv' := [(2, .int 0), (1, .int 0), (0, .ref (ea E b))]) hx hb dX8_cellsWithOre_3 rfl hl (by decide) rfl (fun ls hl => ?_)
  exact b_fX8_cellsWithOre_4 hfb σ C FU 0 0 hf H locs ls hP hS (lv_sub hl [2, 1, 0] rfl)
def fX8_cellsOfSoup_4B (b : Nat) (σ : St) (rec4 : Int32 → Int32 → Option Int32) (x1 : Int32) (x2 : Int32) : Option Int32 :=
(if (nI (stN b)) ≤ x2 then
some x1
else
(rdK (stN b) (σ (b + 4)) x2 fun v2 =>
rec4 (x1 + v2) (x2 + 1)))
set_option maxHeartbeats 4000000 in
theorem b_fX8_cellsOfSoup_4B {E : Ev} {l : Launch} {p : Program} {e : Env} {s : State} {m : MethodId} {args : Array Value} {below : List Frame} {meth : Method} {c : Code} {b : Nat} (hfb : fS b) (σ : St) (C : CX true E RX8 cX8_cellsOfSoup 3 (some .int) p s m args meth c) {rr : Int32} (rec4 : Int32 → Int32 → Option Int32) (hr4 : ∀  (x1 : Int32) (x2 : Int32), rec4 x1 x2 = some rr → GW true l (rmD 1) E 3 p e s m args below meth c (MQ below (QI true E rr σ s.heap.size) args s 0 0 (aW true E s.heap.size)) σ 4 [(0, .ref (ea E b)), (1, .int x1), (2, .int x2)] []) : ∀  (x1 : Int32) (x2 : Int32), fX8_cellsOfSoup_4B b σ rec4 x1 x2 = some rr → GW true l (rmD 1) E 3 p e s m args below meth c (MQ below (QI true E rr σ s.heap.size) args s 0 0 (aW true E s.heap.size)) σ 4 [(0, .ref (ea E b)), (1, .int x1), (2, .int x2)] [] := by
  intro x1 x2 hf H locs ls hP hS hl
  obtain ⟨hx, hb, hr, hml, hown, hts, hlocks, hK, hX, hj⟩ := id C
  unfold fX8_cellsOfSoup_4B at hf
  refine lv_iload_n hx hb dX8_cellsOfSoup_4 rfl (lv_at hl 2 rfl) ?_
  refine lv_aload_n hx hb dX8_cellsOfSoup_5 rfl (lv_at hl 0 rfl) ?_
  refine r_get (k := 6) (v := .ref (ea E (b + 4))) C hP (oS hfb) rfl iX8 (by decide) wm_t65 rfl rfl dX8_cellsOfSoup_6 ?_
  refine r_alen (v := (nI (stN b))) C hP (aS_4 hfb) rfl dX8_cellsOfSoup_9 ?_
  refine lv_icmp_ge (tgt := 28) hx hb dX8_cellsOfSoup_10 (by decide) (fun c1 => ?_) (fun c1 => ?_)
  · replace hf := it_t c1 hf
    refine lv_iload_n hx hb dX8_cellsOfSoup_28 rfl (lv_at hl 1 rfl) ?_
    cases hf
    exact r_iret C hP hS dX8_cellsOfSoup_29
  · replace hf := it_f c1 hf
    refine lv_iload_n hx hb dX8_cellsOfSoup_13 rfl (lv_at hl 1 rfl) ?_
    refine lv_aload_n hx hb dX8_cellsOfSoup_14 rfl (lv_at hl 0 rfl) ?_
    refine r_get (k := 6) (v := .ref (ea E (b + 4))) C hP (oS hfb) rfl iX8 (by decide) wm_t65 rfl rfl dX8_cellsOfSoup_15 ?_
    refine lv_iload_n hx hb dX8_cellsOfSoup_18 rfl (lv_at hl 2 rfl) ?_
    have h3 := (rdK_e hf).1
    refine r_ald C hP (aS_4 hfb) h3 dX8_cellsOfSoup_19 ?_
    refine lv_topi (fun v2 ev2 => ?_)
    replace hf := rdK_n ev2 hf
    refine lv_iadd hx hb dX8_cellsOfSoup_20 ?_
    refine lv_istore_n (lv' := [(1, .int (x1 + v2)), (0, .ref (ea E b)), (2, .int x2)]) hx hb dX8_cellsOfSoup_21 rfl hl (by decide) rfl (fun ls hl => ?_)
    refine lv_iinc (v := (x2 + 1)) (lv' := [(2, .int (x2 + 1)), (1, .int (x1 + v2)), (0, .ref (ea E b))]) hx hb dX8_cellsOfSoup_22 hl (k := 2) rfl rfl (by decide) rfl (fun ls hl => ?_)
    refine lv_goto (tgt := 4) hx hb dX8_cellsOfSoup_25 (by decide) ?_
    exact hr4 (x1 + v2) (x2 + 1) hf H locs ls hP hS (lv_sub hl [2, 1, 0] rfl)
def fX8_cellsOfSoup_4 (b : Nat) (σ : St) : Nat → Int32 → Int32 → Option Int32
  | 0 => fun _ _ => none
  | n + 1 => fun x1 x2 => fX8_cellsOfSoup_4B b σ (fX8_cellsOfSoup_4 b σ n) x1 x2
theorem b_fX8_cellsOfSoup_4 {E : Ev} {l : Launch} {p : Program} {e : Env} {s : State} {m : MethodId} {args : Array Value} {below : List Frame} {meth : Method} {c : Code} {b : Nat} (hfb : fS b) (σ : St) (C : CX true E RX8 cX8_cellsOfSoup 3 (some .int) p s m args meth c) {rr : Int32} : ∀ (n : Nat) (x1 : Int32) (x2 : Int32), fX8_cellsOfSoup_4 b σ n x1 x2 = some rr → GW true l (rmD 1) E 3 p e s m args below meth c (MQ below (QI true E rr σ s.heap.size) args s 0 0 (aW true E s.heap.size)) σ 4 [(0, .ref (ea E b)), (1, .int x1), (2, .int x2)] [] := by
  intro n
  induction n with
  | zero => intro x1 x2 hf; have hf : (none : Option _) = some _ := hf; cases hf
  | succ n ih => intro x1 x2 hf; exact b_fX8_cellsOfSoup_4B hfb σ C (fX8_cellsOfSoup_4 b σ n) ih x1 x2 hf
def fX8_cellsOfSoup (b : Nat) (σ : St) : Option Int32 :=
fX8_cellsOfSoup_4 b σ FU 0 0
set_option maxHeartbeats 4000000 in
theorem c_fX8_cellsOfSoup {E : Ev} {l : Launch} {b : Nat} (hfb : fS b) (hj : jW true E) (σ : St) (sz : Nat) {rr : Int32} (hf : fX8_cellsOfSoup b σ = some rr) : Met l yX8_cellsOfSoup (Cond.code yX8_cellsOfSoup cX8_cellsOfSoup 3 (some .int) :: gT) (rmD 1) (va_Pc [.ref (ea E b)] (preW true E σ sz)) (QI true E rr σ sz) 0 0 (aW true E sz) := by
  refine r_entry (QI true E rr σ) hj (by decide) [.ref (ea E b)] (Nat.le_of_ble_eq_true rfl) (fun p e s m args below meth c C => ?_)
  intro H locs ls hP hS hl
  have hl : lv_has ls 3 [(0, .ref (ea E b))] := hl
  obtain ⟨hx, hb, hr, hml, hown, hts, hlocks, hK, hX, hj⟩ := id C
  unfold fX8_cellsOfSoup at hf
  refine lv_iconst (v := 0) hx hb dX8_cellsOfSoup_0 (by decide) ?_
  refine lv_istore_n (lv' := [(1, .int 0), (0, .ref (ea E b))]) hx hb dX8_cellsOfSoup_1 rfl hl (by decide) rfl (fun ls hl => ?_)
  refine lv_iconst (v := 0) hx hb dX8_cellsOfSoup_2 (by decide) ?_
  refine lv_istore_n (lv' := [(2, .int 0), (1, .int 0), (0, .ref (ea E b))]) hx hb dX8_cellsOfSoup_3 rfl hl (by decide) rfl (fun ls hl => ?_)
  exact b_fX8_cellsOfSoup_4 hfb σ C FU 0 0 hf H locs ls hP hS (lv_sub hl [2, 1, 0] rfl)
def fX8_pour (b : Nat) (σ : St) (a0 : Int32) (a1 : Int32) : Option St :=
(rdK (stN b) (σ (b + 2)) a0 fun v1 =>
(wrK (stN b) σ (b + 2) a0 (if 9999 < (v1 + a1) then 9999 else (v1 + a1)) fun σ3 =>
(rdK (stN b) (σ3 (b + 2)) a0 fun v5 =>
(nmS (st_put σ3 b 7 ((σ3 b 7) + ((v1 + a1) - v5))) fun σ7 =>
some σ7))))
set_option maxHeartbeats 4000000 in
theorem c_fX8_pour {E : Ev} {l : Launch} {b : Nat} (hfb : fS b) (hj : jW true E) (σ : St) (sz : Nat) (a0 : Int32) (a1 : Int32) {sr : St} (hf : fX8_pour b σ a0 a1 = some sr) : Met l yX8_pour (Cond.code yX8_pour cX8_pour 4 none :: gT) (rmD 2) (va_Pc [.ref (ea E b), .int a0, .int a1] (preW true E σ sz)) (QV true E sr sz) 0 0 (aW true E sz) := by
  refine r_entry (QV true E sr) hj (by decide) [.ref (ea E b), .int a0, .int a1] (Nat.le_of_ble_eq_true rfl) (fun p e s m args below meth c C => ?_)
  intro H locs ls hP hS hl
  have hl : lv_has ls 4 [(0, .ref (ea E b)), (1, .int a0), (2, .int a1)] := hl
  obtain ⟨hx, hb, hr, hml, hown, hts, hlocks, hK, hX, hj⟩ := id C
  unfold fX8_pour at hf
  refine lv_aload_n hx hb dX8_pour_0 rfl (lv_at hl 0 rfl) ?_
  refine r_get (k := 4) (v := .ref (ea E (b + 2))) C hP (oS hfb) rfl iX8 (by decide) wm_t60 rfl rfl dX8_pour_1 ?_
  refine lv_iload_n hx hb dX8_pour_4 rfl (lv_at hl 1 rfl) ?_
  have h2 := (rdK_e hf).1
  refine r_ald C hP (aS_2 hfb) h2 dX8_pour_5 ?_
  refine lv_topi (fun v1 ev1 => ?_)
  replace hf := rdK_n ev1 hf
  refine lv_iload_n hx hb dX8_pour_6 rfl (lv_at hl 2 rfl) ?_
  refine lv_iadd hx hb dX8_pour_7 ?_
  refine lv_istore_n (lv' := [(3, .int (v1 + a1)), (0, .ref (ea E b)), (1, .int a0), (2, .int a1)]) hx hb dX8_pour_8 rfl hl (by decide) rfl (fun ls hl => ?_)
  refine lv_aload_n hx hb dX8_pour_9 rfl (lv_at hl 1 rfl) ?_
  refine r_get (k := 4) (v := .ref (ea E (b + 2))) C hP (oS hfb) rfl iX8 (by decide) wm_t60 rfl rfl dX8_pour_10 ?_
  refine lv_iload_n hx hb dX8_pour_13 rfl (lv_at hl 2 rfl) ?_
  refine lv_iload_n hx hb dX8_pour_14 rfl (lv_at hl 0 rfl) ?_
  refine lv_sipush (v := 9999) hx hb dX8_pour_15 (by decide) ?_
  refine va_mmin hx hb (hml.trans hl.1.symm) hown (hts _ wm_t652) (hts _ wm_t505) (hts _ wm_t4) (hts _ wm_t506) (by decide) (Nat.le_of_ble_eq_true rfl) (Nat.zero_le _) (Nat.zero_le _) dX8_pour_18 ?_
  obtain ⟨h4, σ3, eσ3, hf⟩ := wrK_e hf
  refine r_ast C hP hS (aS_2 hfb) h4 dX8_pour_21 (fun H locs hP hS => ?_)
  rw [← eσ3] at hP
  refine lv_aload_n hx hb dX8_pour_22 rfl (lv_at hl 1 rfl) ?_
  refine lv_dup hx hb dX8_pour_23 rfl ?_
  refine r_get (k := 7) (v := .int (σ3 b 7)) C hP (oS hfb) rfl iX8 (by decide) wm_t67 rfl rfl dX8_pour_24 ?_
  refine lv_iload_n hx hb dX8_pour_27 rfl (lv_at hl 0 rfl) ?_
  refine lv_aload_n hx hb dX8_pour_28 rfl (lv_at hl 1 rfl) ?_
  refine r_get (k := 4) (v := .ref (ea E (b + 2))) C hP (oS hfb) rfl iX8 (by decide) wm_t60 rfl rfl dX8_pour_29 ?_
  refine lv_iload_n hx hb dX8_pour_32 rfl (lv_at hl 2 rfl) ?_
  have h6 := (rdK_e hf).1
  refine r_ald C hP (aS_2 hfb) h6 dX8_pour_33 ?_
  refine lv_topi (fun v5 ev5 => ?_)
  replace hf := rdK_n ev5 hf
  refine lv_isub hx hb dX8_pour_34 ?_
  refine lv_iadd hx hb dX8_pour_35 ?_
  refine r_put (k := 7) (x := ((σ3 b 7) + ((v1 + a1) - v5))) C hP hS tyX8 tyX8_ok nmX8 (oS hfb) rfl iX8 (by decide) wm_t67 rfl rfl sS_7 rfl rfl (Nat.le_of_ble_eq_true rfl) dX8_pour_36 (fun H locs hP hS => ?_)
  obtain ⟨σ7, eσ7, hf⟩ := nmS_e hf
  rw [← eσ7] at hP
  cases hf
  exact r_vret C hP hS dX8_pour_39
def fX8_shake_2B (b : Nat) (rec2 : St → Int32 → Int32 → Option St) (σ : St) (x1 : Int32) (x2 : Int32) : Option St :=
(if (nI (stN b)) ≤ x2 then
some σ
else
(rdK (stN b) (σ (b + 1)) x2 fun v2 =>
(if v2 ≤ 0 then
rec2 σ x1 (x2 + 1)
else
(rdK (stN b) (σ (b + 3)) x2 fun v5 =>
(wrK (stN b) σ (b + 3) x2 (if 9999 < (v5 + x1) then 9999 else (v5 + x1)) fun σ7 =>
rec2 σ7 x1 (x2 + 1))))))
set_option maxHeartbeats 4000000 in
theorem b_fX8_shake_2B {E : Ev} {l : Launch} {p : Program} {e : Env} {s : State} {m : MethodId} {args : Array Value} {below : List Frame} {meth : Method} {c : Code} {b : Nat} (hfb : fS b) (C : CX true E RX8 cX8_shake 3 none p s m args meth c) {sr : St} (rec2 : St → Int32 → Int32 → Option St) (hr2 : ∀ (σ : St) (x1 : Int32) (x2 : Int32), rec2 σ x1 x2 = some sr → GW true l (rmD 2) E 3 p e s m args below meth c (MQ below (QV true E sr s.heap.size) args s 0 0 (aW true E s.heap.size)) σ 2 [(0, .ref (ea E b)), (1, .int x1), (2, .int x2)] []) : ∀ (σ : St) (x1 : Int32) (x2 : Int32), fX8_shake_2B b rec2 σ x1 x2 = some sr → GW true l (rmD 2) E 3 p e s m args below meth c (MQ below (QV true E sr s.heap.size) args s 0 0 (aW true E s.heap.size)) σ 2 [(0, .ref (ea E b)), (1, .int x1), (2, .int x2)] [] := by
  intro σ x1 x2 hf H locs ls hP hS hl
  obtain ⟨hx, hb, hr, hml, hown, hts, hlocks, hK, hX, hj⟩ := id C
  unfold fX8_shake_2B at hf
  refine lv_iload_n hx hb dX8_shake_2 rfl (lv_at hl 2 rfl) ?_
  refine lv_aload_n hx hb dX8_shake_3 rfl (lv_at hl 0 rfl) ?_
  refine r_get (k := 3) (v := .ref (ea E (b + 1))) C hP (oS hfb) rfl iX8 (by decide) wm_t55 rfl rfl dX8_shake_4 ?_
  refine r_alen (v := (nI (stN b))) C hP (aS_1 hfb) rfl dX8_shake_7 ?_
  refine lv_icmp_ge (tgt := 46) hx hb dX8_shake_8 (by decide) (fun c1 => ?_) (fun c1 => ?_)
  · replace hf := it_t c1 hf
    cases hf
    exact r_vret C hP hS dX8_shake_46
  · replace hf := it_f c1 hf
    refine lv_aload_n hx hb dX8_shake_11 rfl (lv_at hl 0 rfl) ?_
    refine r_get (k := 3) (v := .ref (ea E (b + 1))) C hP (oS hfb) rfl iX8 (by decide) wm_t55 rfl rfl dX8_shake_12 ?_
    refine lv_iload_n hx hb dX8_shake_15 rfl (lv_at hl 2 rfl) ?_
    have h3 := (rdK_e hf).1
    refine r_ald C hP (aS_1 hfb) h3 dX8_shake_16 ?_
    refine lv_topi (fun v2 ev2 => ?_)
    replace hf := rdK_n ev2 hf
    refine lv_if_le (tgt := 40) hx hb dX8_shake_17 (by decide) (fun c4 => ?_) (fun c4 => ?_)
    · replace hf := it_t c4 hf
      refine lv_iinc (v := (x2 + 1)) (lv' := [(2, .int (x2 + 1)), (0, .ref (ea E b)), (1, .int x1)]) hx hb dX8_shake_40 hl (k := 2) rfl rfl (by decide) rfl (fun ls hl => ?_)
      refine lv_goto (tgt := 2) hx hb dX8_shake_43 (by decide) ?_
      exact hr2 σ x1 (x2 + 1) hf H locs ls hP hS (lv_sub hl [1, 2, 0] rfl)
    · replace hf := it_f c4 hf
      refine lv_aload_n hx hb dX8_shake_20 rfl (lv_at hl 0 rfl) ?_
      refine r_get (k := 5) (v := .ref (ea E (b + 3))) C hP (oS hfb) rfl iX8 (by decide) wm_t63 rfl rfl dX8_shake_21 ?_
      refine lv_iload_n hx hb dX8_shake_24 rfl (lv_at hl 2 rfl) ?_
      refine lv_aload_n hx hb dX8_shake_25 rfl (lv_at hl 0 rfl) ?_
      refine r_get (k := 5) (v := .ref (ea E (b + 3))) C hP (oS hfb) rfl iX8 (by decide) wm_t63 rfl rfl dX8_shake_26 ?_
      refine lv_iload_n hx hb dX8_shake_29 rfl (lv_at hl 2 rfl) ?_
      have h6 := (rdK_e hf).1
      refine r_ald C hP (aS_3 hfb) h6 dX8_shake_30 ?_
      refine lv_topi (fun v5 ev5 => ?_)
      replace hf := rdK_n ev5 hf
      refine lv_iload_n hx hb dX8_shake_31 rfl (lv_at hl 1 rfl) ?_
      refine lv_iadd hx hb dX8_shake_32 ?_
      refine lv_sipush (v := 9999) hx hb dX8_shake_33 (by decide) ?_
      refine va_mmin hx hb (hml.trans hl.1.symm) hown (hts _ wm_t652) (hts _ wm_t505) (hts _ wm_t4) (hts _ wm_t506) (by decide) (Nat.le_of_ble_eq_true rfl) (Nat.zero_le _) (Nat.zero_le _) dX8_shake_36 ?_
      obtain ⟨h8, σ7, eσ7, hf⟩ := wrK_e hf
      refine r_ast C hP hS (aS_3 hfb) h8 dX8_shake_39 (fun H locs hP hS => ?_)
      rw [← eσ7] at hP
      refine lv_iinc (v := (x2 + 1)) (lv' := [(2, .int (x2 + 1)), (0, .ref (ea E b)), (1, .int x1)]) hx hb dX8_shake_40 hl (k := 2) rfl rfl (by decide) rfl (fun ls hl => ?_)
      refine lv_goto (tgt := 2) hx hb dX8_shake_43 (by decide) ?_
      exact hr2 σ7 x1 (x2 + 1) hf H locs ls hP hS (lv_sub hl [1, 2, 0] rfl)
def fX8_shake_2 (b : Nat) : Nat → St → Int32 → Int32 → Option St
  | 0 => fun _ _ _ => none
  | n + 1 => fun σ x1 x2 => fX8_shake_2B b (fX8_shake_2 b n) σ x1 x2
theorem b_fX8_shake_2 {E : Ev} {l : Launch} {p : Program} {e : Env} {s : State} {m : MethodId} {args : Array Value} {below : List Frame} {meth : Method} {c : Code} {b : Nat} (hfb : fS b) (C : CX true E RX8 cX8_shake 3 none p s m args meth c) {sr : St} : ∀ (n : Nat) (σ : St) (x1 : Int32) (x2 : Int32), fX8_shake_2 b n σ x1 x2 = some sr → GW true l (rmD 2) E 3 p e s m args below meth c (MQ below (QV true E sr s.heap.size) args s 0 0 (aW true E s.heap.size)) σ 2 [(0, .ref (ea E b)), (1, .int x1), (2, .int x2)] [] := by
  intro n
  induction n with
  | zero => intro σ x1 x2 hf; have hf : (none : Option _) = some _ := hf; cases hf
  | succ n ih => intro σ x1 x2 hf; exact b_fX8_shake_2B hfb C (fX8_shake_2 b n) ih σ x1 x2 hf
def fX8_shake (b : Nat) (σ : St) (a0 : Int32) : Option St :=
fX8_shake_2 b FU σ a0 0
set_option maxHeartbeats 4000000 in
theorem c_fX8_shake {E : Ev} {l : Launch} {b : Nat} (hfb : fS b) (hj : jW true E) (σ : St) (sz : Nat) (a0 : Int32) {sr : St} (hf : fX8_shake b σ a0 = some sr) : Met l yX8_shake (Cond.code yX8_shake cX8_shake 3 none :: gT) (rmD 2) (va_Pc [.ref (ea E b), .int a0] (preW true E σ sz)) (QV true E sr sz) 0 0 (aW true E sz) := by
  refine r_entry (QV true E sr) hj (by decide) [.ref (ea E b), .int a0] (Nat.le_of_ble_eq_true rfl) (fun p e s m args below meth c C => ?_)
  intro H locs ls hP hS hl
  have hl : lv_has ls 3 [(0, .ref (ea E b)), (1, .int a0)] := hl
  obtain ⟨hx, hb, hr, hml, hown, hts, hlocks, hK, hX, hj⟩ := id C
  unfold fX8_shake at hf
  refine lv_iconst (v := 0) hx hb dX8_shake_0 (by decide) ?_
  refine lv_istore_n (lv' := [(2, .int 0), (0, .ref (ea E b)), (1, .int a0)]) hx hb dX8_shake_1 rfl hl (by decide) rfl (fun ls hl => ?_)
  exact b_fX8_shake_2 hfb C FU σ a0 0 hf H locs ls hP hS (lv_sub hl [1, 2, 0] rfl)
def fX9_clear (b : Nat) (σ : St) : Option St :=
(nmS (st_put σ b 0 0) fun σ1 =>
(nmS (st_put σ1 b 1 0) fun σ2 =>
some σ2))
set_option maxHeartbeats 4000000 in
theorem c_fX9_clear {E : Ev} {l : Launch} {b : Nat} (hfb : fW b) (hj : jW true E) (σ : St) (sz : Nat) {sr : St} (hf : fX9_clear b σ = some sr) : Met l yX9_clear (Cond.code yX9_clear cX9_clear 1 none :: gT) (rmD 1) (va_Pc [.ref (ea E b)] (preW true E σ sz)) (QV true E sr sz) 0 0 (aW true E sz) := by
  refine r_entry (QV true E sr) hj (by decide) [.ref (ea E b)] (Nat.le_of_ble_eq_true rfl) (fun p e s m args below meth c C => ?_)
  intro H locs ls hP hS hl
  have hl : lv_has ls 1 [(0, .ref (ea E b))] := hl
  obtain ⟨hx, hb, hr, hml, hown, hts, hlocks, hK, hX, hj⟩ := id C
  unfold fX9_clear at hf
  refine lv_aload_n hx hb dX9_clear_0 rfl (lv_at hl 0 rfl) ?_
  refine lv_iconst (v := 0) hx hb dX9_clear_1 (by decide) ?_
  refine r_put (k := 0) (x := 0) C hP hS tyX9 tyX9_ok nmX9 (oW hfb) rfl iX9 (by decide) wm_t133 rfl rfl sW_0 rfl rfl (Nat.le_of_ble_eq_true rfl) dX9_clear_2 (fun H locs hP hS => ?_)
  obtain ⟨σ1, eσ1, hf⟩ := nmS_e hf
  rw [← eσ1] at hP
  refine lv_aload_n hx hb dX9_clear_5 rfl (lv_at hl 0 rfl) ?_
  refine lv_iconst (v := 0) hx hb dX9_clear_6 (by decide) ?_
  refine r_put (k := 1) (x := 0) C hP hS tyX9 tyX9_ok nmX9 (oW hfb) rfl iX9 (by decide) wm_t138 rfl rfl sW_1 rfl rfl (Nat.le_of_ble_eq_true rfl) dX9_clear_7 (fun H locs hP hS => ?_)
  obtain ⟨σ2, eσ2, hf⟩ := nmS_e hf
  rw [← eσ2] at hP
  cases hf
  exact r_vret C hP hS dX9_clear_10
def fX9_beginLine (b : Nat) (σ : St) (a0 : Int32) (a1 : Int32) : Option St :=
(if 16 ≤ (σ b 0) then
some σ
else
(wrK 16 σ (b + 2) (σ b 0) a0 fun σ2 =>
(wrK 16 σ2 (b + 3) (σ2 b 0) a1 fun σ4 =>
some σ4)))
set_option maxHeartbeats 4000000 in
theorem c_fX9_beginLine {E : Ev} {l : Launch} {b : Nat} (hfb : fW b) (hj : jW true E) (σ : St) (sz : Nat) (a0 : Int32) (a1 : Int32) {sr : St} (hf : fX9_beginLine b σ a0 a1 = some sr) : Met l yX9_beginLine (Cond.code yX9_beginLine cX9_beginLine 3 none :: gT) (rmD 1) (va_Pc [.ref (ea E b), .int a0, .int a1] (preW true E σ sz)) (QV true E sr sz) 0 0 (aW true E sz) := by
  refine r_entry (QV true E sr) hj (by decide) [.ref (ea E b), .int a0, .int a1] (Nat.le_of_ble_eq_true rfl) (fun p e s m args below meth c C => ?_)
  intro H locs ls hP hS hl
  have hl : lv_has ls 3 [(0, .ref (ea E b)), (1, .int a0), (2, .int a1)] := hl
  obtain ⟨hx, hb, hr, hml, hown, hts, hlocks, hK, hX, hj⟩ := id C
  unfold fX9_beginLine at hf
  refine lv_aload_n hx hb dX9_beginLine_0 rfl (lv_at hl 0 rfl) ?_
  refine r_get (k := 0) (v := .int (σ b 0)) C hP (oW hfb) rfl iX9 (by decide) wm_t133 rfl rfl dX9_beginLine_1 ?_
  refine lv_bipush (v := 16) hx hb dX9_beginLine_4 (by decide) ?_
  refine lv_icmp_ge (tgt := 29) hx hb dX9_beginLine_6 (by decide) (fun c1 => ?_) (fun c1 => ?_)
  · replace hf := it_t c1 hf
    cases hf
    exact r_vret C hP hS dX9_beginLine_29
  · replace hf := it_f c1 hf
    refine lv_aload_n hx hb dX9_beginLine_9 rfl (lv_at hl 0 rfl) ?_
    refine r_get (k := 3) (v := .ref (ea E (b + 2))) C hP (oW hfb) rfl iX9 (by decide) wm_t140 rfl rfl dX9_beginLine_10 ?_
    refine lv_aload_n hx hb dX9_beginLine_13 rfl (lv_at hl 0 rfl) ?_
    refine r_get (k := 0) (v := .int (σ b 0)) C hP (oW hfb) rfl iX9 (by decide) wm_t133 rfl rfl dX9_beginLine_14 ?_
    refine lv_iload_n hx hb dX9_beginLine_17 rfl (lv_at hl 1 rfl) ?_
    obtain ⟨h3, σ2, eσ2, hf⟩ := wrK_e hf
    refine r_ast C hP hS (aW_2 hfb) h3 dX9_beginLine_18 (fun H locs hP hS => ?_)
    rw [← eσ2] at hP
    refine lv_aload_n hx hb dX9_beginLine_19 rfl (lv_at hl 0 rfl) ?_
    refine r_get (k := 4) (v := .ref (ea E (b + 3))) C hP (oW hfb) rfl iX9 (by decide) wm_t141 rfl rfl dX9_beginLine_20 ?_
    refine lv_aload_n hx hb dX9_beginLine_23 rfl (lv_at hl 0 rfl) ?_
    refine r_get (k := 0) (v := .int (σ2 b 0)) C hP (oW hfb) rfl iX9 (by decide) wm_t133 rfl rfl dX9_beginLine_24 ?_
    refine lv_iload_n hx hb dX9_beginLine_27 rfl (lv_at hl 2 rfl) ?_
    obtain ⟨h5, σ4, eσ4, hf⟩ := wrK_e hf
    refine r_ast C hP hS (aW_3 hfb) h5 dX9_beginLine_28 (fun H locs hP hS => ?_)
    rw [← eσ4] at hP
    cases hf
    exact r_vret C hP hS dX9_beginLine_29
def fX9_beginWhen (b : Nat) (σ : St) : Option St :=
(if 16 ≤ (σ b 0) then
some σ
else
(wrK 16 σ (b + 4) (σ b 0) (σ b 1) fun σ2 =>
some σ2))
set_option maxHeartbeats 4000000 in
theorem c_fX9_beginWhen {E : Ev} {l : Launch} {b : Nat} (hfb : fW b) (hj : jW true E) (σ : St) (sz : Nat) {sr : St} (hf : fX9_beginWhen b σ = some sr) : Met l yX9_beginWhen (Cond.code yX9_beginWhen cX9_beginWhen 1 none :: gT) (rmD 1) (va_Pc [.ref (ea E b)] (preW true E σ sz)) (QV true E sr sz) 0 0 (aW true E sz) := by
  refine r_entry (QV true E sr) hj (by decide) [.ref (ea E b)] (Nat.le_of_ble_eq_true rfl) (fun p e s m args below meth c C => ?_)
  intro H locs ls hP hS hl
  have hl : lv_has ls 1 [(0, .ref (ea E b))] := hl
  obtain ⟨hx, hb, hr, hml, hown, hts, hlocks, hK, hX, hj⟩ := id C
  unfold fX9_beginWhen at hf
  refine lv_aload_n hx hb dX9_beginWhen_0 rfl (lv_at hl 0 rfl) ?_
  refine r_get (k := 0) (v := .int (σ b 0)) C hP (oW hfb) rfl iX9 (by decide) wm_t133 rfl rfl dX9_beginWhen_1 ?_
  refine lv_bipush (v := 16) hx hb dX9_beginWhen_4 (by decide) ?_
  refine lv_icmp_ge (tgt := 22) hx hb dX9_beginWhen_6 (by decide) (fun c1 => ?_) (fun c1 => ?_)
  · replace hf := it_t c1 hf
    cases hf
    exact r_vret C hP hS dX9_beginWhen_22
  · replace hf := it_f c1 hf
    refine lv_aload_n hx hb dX9_beginWhen_9 rfl (lv_at hl 0 rfl) ?_
    refine r_get (k := 5) (v := .ref (ea E (b + 4))) C hP (oW hfb) rfl iX9 (by decide) wm_t142 rfl rfl dX9_beginWhen_10 ?_
    refine lv_aload_n hx hb dX9_beginWhen_13 rfl (lv_at hl 0 rfl) ?_
    refine r_get (k := 0) (v := .int (σ b 0)) C hP (oW hfb) rfl iX9 (by decide) wm_t133 rfl rfl dX9_beginWhen_14 ?_
    refine lv_aload_n hx hb dX9_beginWhen_17 rfl (lv_at hl 0 rfl) ?_
    refine r_get (k := 1) (v := .int (σ b 1)) C hP (oW hfb) rfl iX9 (by decide) wm_t138 rfl rfl dX9_beginWhen_18 ?_
    obtain ⟨h3, σ2, eσ2, hf⟩ := wrK_e hf
    refine r_ast C hP hS (aW_4 hfb) h3 dX9_beginWhen_21 (fun H locs hP hS => ?_)
    rw [← eσ2] at hP
    cases hf
    exact r_vret C hP hS dX9_beginWhen_22
def fX9_endLine (b : Nat) (σ : St) : Option St :=
(if 16 ≤ (σ b 0) then
some σ
else
(wrK 16 σ (b + 5) (σ b 0) (σ b 1) fun σ2 =>
(nmS (st_put σ2 b 0 ((σ2 b 0) + 1)) fun σ4 =>
some σ4)))
set_option maxHeartbeats 4000000 in
theorem c_fX9_endLine {E : Ev} {l : Launch} {b : Nat} (hfb : fW b) (hj : jW true E) (σ : St) (sz : Nat) {sr : St} (hf : fX9_endLine b σ = some sr) : Met l yX9_endLine (Cond.code yX9_endLine cX9_endLine 1 none :: gT) (rmD 1) (va_Pc [.ref (ea E b)] (preW true E σ sz)) (QV true E sr sz) 0 0 (aW true E sz) := by
  refine r_entry (QV true E sr) hj (by decide) [.ref (ea E b)] (Nat.le_of_ble_eq_true rfl) (fun p e s m args below meth c C => ?_)
  intro H locs ls hP hS hl
  have hl : lv_has ls 1 [(0, .ref (ea E b))] := hl
  obtain ⟨hx, hb, hr, hml, hown, hts, hlocks, hK, hX, hj⟩ := id C
  unfold fX9_endLine at hf
  refine lv_aload_n hx hb dX9_endLine_0 rfl (lv_at hl 0 rfl) ?_
  refine r_get (k := 0) (v := .int (σ b 0)) C hP (oW hfb) rfl iX9 (by decide) wm_t133 rfl rfl dX9_endLine_1 ?_
  refine lv_bipush (v := 16) hx hb dX9_endLine_4 (by decide) ?_
  refine lv_icmp_ge (tgt := 32) hx hb dX9_endLine_6 (by decide) (fun c1 => ?_) (fun c1 => ?_)
  · replace hf := it_t c1 hf
    cases hf
    exact r_vret C hP hS dX9_endLine_32
  · replace hf := it_f c1 hf
    refine lv_aload_n hx hb dX9_endLine_9 rfl (lv_at hl 0 rfl) ?_
    refine r_get (k := 6) (v := .ref (ea E (b + 5))) C hP (oW hfb) rfl iX9 (by decide) wm_t143 rfl rfl dX9_endLine_10 ?_
    refine lv_aload_n hx hb dX9_endLine_13 rfl (lv_at hl 0 rfl) ?_
    refine r_get (k := 0) (v := .int (σ b 0)) C hP (oW hfb) rfl iX9 (by decide) wm_t133 rfl rfl dX9_endLine_14 ?_
    refine lv_aload_n hx hb dX9_endLine_17 rfl (lv_at hl 0 rfl) ?_
    refine r_get (k := 1) (v := .int (σ b 1)) C hP (oW hfb) rfl iX9 (by decide) wm_t138 rfl rfl dX9_endLine_18 ?_
    obtain ⟨h3, σ2, eσ2, hf⟩ := wrK_e hf
    refine r_ast C hP hS (aW_5 hfb) h3 dX9_endLine_21 (fun H locs hP hS => ?_)
    rw [← eσ2] at hP
    refine lv_aload_n hx hb dX9_endLine_22 rfl (lv_at hl 0 rfl) ?_
    refine lv_dup hx hb dX9_endLine_23 rfl ?_
    refine r_get (k := 0) (v := .int (σ2 b 0)) C hP (oW hfb) rfl iX9 (by decide) wm_t133 rfl rfl dX9_endLine_24 ?_
    refine lv_iconst (v := 1) hx hb dX9_endLine_27 (by decide) ?_
    refine lv_iadd hx hb dX9_endLine_28 ?_
    refine r_put (k := 0) (x := ((σ2 b 0) + 1)) C hP hS tyX9 tyX9_ok nmX9 (oW hfb) rfl iX9 (by decide) wm_t133 rfl rfl sW_0 rfl rfl (Nat.le_of_ble_eq_true rfl) dX9_endLine_29 (fun H locs hP hS => ?_)
    obtain ⟨σ4, eσ4, hf⟩ := nmS_e hf
    rw [← eσ4] at hP
    cases hf
    exact r_vret C hP hS dX9_endLine_32
def fX9_add (b : Nat) (σ : St) (a0 : Int32) (a1 : Int32) : Option St :=
(if 600 ≤ (σ b 1) then
some σ
else
(wrK 600 σ (b + 1) (σ b 1) ((a0 * 16384) + a1) fun σ2 =>
(nmS (st_put σ2 b 1 ((σ2 b 1) + 1)) fun σ4 =>
some σ4)))
set_option maxHeartbeats 4000000 in
theorem c_fX9_add {E : Ev} {l : Launch} {b : Nat} (hfb : fW b) (hj : jW true E) (σ : St) (sz : Nat) (a0 : Int32) (a1 : Int32) {sr : St} (hf : fX9_add b σ a0 a1 = some sr) : Met l yX9_add (Cond.code yX9_add cX9_add 3 none :: gT) (rmD 1) (va_Pc [.ref (ea E b), .int a0, .int a1] (preW true E σ sz)) (QV true E sr sz) 0 0 (aW true E sz) := by
  refine r_entry (QV true E sr) hj (by decide) [.ref (ea E b), .int a0, .int a1] (Nat.le_of_ble_eq_true rfl) (fun p e s m args below meth c C => ?_)
  intro H locs ls hP hS hl
  have hl : lv_has ls 3 [(0, .ref (ea E b)), (1, .int a0), (2, .int a1)] := hl
  obtain ⟨hx, hb, hr, hml, hown, hts, hlocks, hK, hX, hj⟩ := id C
  unfold fX9_add at hf
  refine lv_aload_n hx hb dX9_add_0 rfl (lv_at hl 0 rfl) ?_
  refine r_get (k := 1) (v := .int (σ b 1)) C hP (oW hfb) rfl iX9 (by decide) wm_t138 rfl rfl dX9_add_1 ?_
  refine lv_sipush (v := 600) hx hb dX9_add_4 (by decide) ?_
  refine lv_icmp_ge (tgt := 36) hx hb dX9_add_7 (by decide) (fun c1 => ?_) (fun c1 => ?_)
  · replace hf := it_t c1 hf
    cases hf
    exact r_vret C hP hS dX9_add_36
  · replace hf := it_f c1 hf
    refine lv_aload_n hx hb dX9_add_10 rfl (lv_at hl 0 rfl) ?_
    refine r_get (k := 2) (v := .ref (ea E (b + 1))) C hP (oW hfb) rfl iX9 (by decide) wm_t139 rfl rfl dX9_add_11 ?_
    refine lv_aload_n hx hb dX9_add_14 rfl (lv_at hl 0 rfl) ?_
    refine r_get (k := 1) (v := .int (σ b 1)) C hP (oW hfb) rfl iX9 (by decide) wm_t138 rfl rfl dX9_add_15 ?_
    refine lv_iload_n hx hb dX9_add_18 rfl (lv_at hl 1 rfl) ?_
    refine lv_sipush (v := 16384) hx hb dX9_add_19 (by decide) ?_
    refine lv_imul hx hb dX9_add_22 ?_
    refine lv_iload_n hx hb dX9_add_23 rfl (lv_at hl 2 rfl) ?_
    refine lv_iadd hx hb dX9_add_24 ?_
    obtain ⟨h3, σ2, eσ2, hf⟩ := wrK_e hf
    refine r_ast C hP hS (aW_1 hfb) h3 dX9_add_25 (fun H locs hP hS => ?_)
    rw [← eσ2] at hP
    refine lv_aload_n hx hb dX9_add_26 rfl (lv_at hl 0 rfl) ?_
    refine lv_dup hx hb dX9_add_27 rfl ?_
    refine r_get (k := 1) (v := .int (σ2 b 1)) C hP (oW hfb) rfl iX9 (by decide) wm_t138 rfl rfl dX9_add_28 ?_
    refine lv_iconst (v := 1) hx hb dX9_add_31 (by decide) ?_
    refine lv_iadd hx hb dX9_add_32 ?_
    refine r_put (k := 1) (x := ((σ2 b 1) + 1)) C hP hS tyX9 tyX9_ok nmX9 (oW hfb) rfl iX9 (by decide) wm_t138 rfl rfl sW_1 rfl rfl (Nat.le_of_ble_eq_true rfl) dX9_add_33 (fun H locs hP hS => ?_)
    obtain ⟨σ4, eσ4, hf⟩ := nmS_e hf
    rw [← eσ4] at hP
    cases hf
    exact r_vret C hP hS dX9_add_36
def fX9_work_348 (b : Nat) (v : Nat) (σ : St) (x4 : Int32) : Option (Int32 × St) :=
(if x4 ≤ 2 then
some (0, σ)
else
(rdK 32 (σ (b + 6)) (x4 - 1) fun v2 =>
some (v2, σ)))
set_option maxHeartbeats 4000000 in
theorem b_fX9_work_348 {E : Ev} {l : Launch} {p : Program} {e : Env} {s : State} {m : MethodId} {args : Array Value} {below : List Frame} {meth : Method} {c : Code} {b : Nat} (hfb : fW b) {v : Nat} (hfv : fA v) (C : CX true E RX9 cX9_work 11 (some .int) p s m args meth c) {rr : Int32} {sr : St} : ∀ (σ : St) (x4 : Int32), fX9_work_348 b v σ x4 = some (rr, sr) → GW true l (rmD 2) E 11 p e s m args below meth c (MQ below (QI true E rr sr s.heap.size) args s 0 0 (aW true E s.heap.size)) σ 348 [(0, .ref (ea E b)), (4, .int x4)] [] := by
  intro σ x4 hf H locs ls hP hS hl
  obtain ⟨hx, hb, hr, hml, hown, hts, hlocks, hK, hX, hj⟩ := id C
  unfold fX9_work_348 at hf
  refine lv_iload hx hb dX9_work_348 (lv_at hl 1 rfl) ?_
  refine lv_iconst (v := 2) hx hb dX9_work_350 (by decide) ?_
  refine lv_icmp_le (tgt := 366) hx hb dX9_work_351 (by decide) (fun c1 => ?_) (fun c1 => ?_)
  · replace hf := it_t c1 hf
    refine lv_iconst (v := 0) hx hb dX9_work_366 (by decide) ?_
    cases hf
    exact r_iret C hP hS dX9_work_367
  · replace hf := it_f c1 hf
    refine lv_aload_n hx hb dX9_work_354 rfl (lv_at hl 0 rfl) ?_
    refine r_get (k := 7) (v := .ref (ea E (b + 6))) C hP (oW hfb) rfl iX9 (by decide) wm_t144 rfl rfl dX9_work_355 ?_
    refine lv_iload hx hb dX9_work_358 (lv_at hl 1 rfl) ?_
    refine lv_iconst (v := 1) hx hb dX9_work_360 (by decide) ?_
    refine lv_isub hx hb dX9_work_361 ?_
    have h3 := (rdK_e hf).1
    refine r_ald C hP (aW_6 hfb) h3 dX9_work_362 ?_
    refine lv_topi (fun v2 ev2 => ?_)
    replace hf := rdK_n ev2 hf
    refine lv_goto (tgt := 367) hx hb dX9_work_363 (by decide) ?_
    cases hf
    exact r_iret C hP hS dX9_work_367
def fX9_work_328 (b : Nat) (v : Nat) (rec10 : St → Int32 → Int32 → Int32 → Option (Int32 × St)) (σ : St) (x2 : Int32) (x5 : Int32) (x10 : Int32) (y0 : Int32) (y1 : Int32) : Option (Int32 × St) :=
(wrK 32 σ (b + 6) ((y1 + y0) - 1) x10 fun σ1 =>
rec10 σ1 x2 (y1 + y0) (x5 + 1))
set_option maxHeartbeats 4000000 in
theorem b_fX9_work_328 {E : Ev} {l : Launch} {p : Program} {e : Env} {s : State} {m : MethodId} {args : Array Value} {below : List Frame} {meth : Method} {c : Code} {b : Nat} (hfb : fW b) {v : Nat} (hfv : fA v) (C : CX true E RX9 cX9_work 11 (some .int) p s m args meth c) {rr : Int32} {sr : St} (rec10 : St → Int32 → Int32 → Int32 → Option (Int32 × St)) (hr10 : ∀ (σ : St) (x2 : Int32) (x4 : Int32) (x5 : Int32), rec10 σ x2 x4 x5 = some (rr, sr) → GW true l (rmD 2) E 11 p e s m args below meth c (MQ below (QI true E rr sr s.heap.size) args s 0 0 (aW true E s.heap.size)) σ 10 [(0, .ref (ea E b)), (2, .int x2), (3, .ref (ea E v)), (4, .int x4), (5, .int x5)] []) : ∀ (σ : St) (x2 : Int32) (x5 : Int32) (x10 : Int32) (y0 : Int32) (y1 : Int32), fX9_work_328 b v rec10 σ x2 x5 x10 y0 y1 = some (rr, sr) → GW true l (rmD 2) E 11 p e s m args below meth c (MQ below (QI true E rr sr s.heap.size) args s 0 0 (aW true E s.heap.size)) σ 328 [(0, .ref (ea E b)), (2, .int x2), (3, .ref (ea E v)), (5, .int x5), (10, .int x10)] [.int y0, .int y1] := by
  intro σ x2 x5 x10 y0 y1 hf H locs ls hP hS hl
  obtain ⟨hx, hb, hr, hml, hown, hts, hlocks, hK, hX, hj⟩ := id C
  unfold fX9_work_328 at hf
  refine lv_iadd hx hb dX9_work_328 ?_
  refine lv_istore (lv' := [(4, .int (y1 + y0)), (0, .ref (ea E b)), (2, .int x2), (3, .ref (ea E v)), (5, .int x5), (10, .int x10)]) hx hb dX9_work_329 hl (by decide) rfl (fun ls hl => ?_)
  refine lv_aload_n hx hb dX9_work_331 rfl (lv_at hl 1 rfl) ?_
  refine r_get (k := 7) (v := .ref (ea E (b + 6))) C hP (oW hfb) rfl iX9 (by decide) wm_t144 rfl rfl dX9_work_332 ?_
  refine lv_iload hx hb dX9_work_335 (lv_at hl 0 rfl) ?_
  refine lv_iconst (v := 1) hx hb dX9_work_337 (by decide) ?_
  refine lv_isub hx hb dX9_work_338 ?_
  refine lv_iload hx hb dX9_work_339 (lv_at hl 5 rfl) ?_
  obtain ⟨h2, σ1, eσ1, hf⟩ := wrK_e hf
  refine r_ast C hP hS (aW_6 hfb) h2 dX9_work_341 (fun H locs hP hS => ?_)
  rw [← eσ1] at hP
  refine lv_iinc (v := (x5 + 1)) (lv' := [(5, .int (x5 + 1)), (4, .int (y1 + y0)), (0, .ref (ea E b)), (2, .int x2), (3, .ref (ea E v)), (10, .int x10)]) hx hb dX9_work_342 hl (k := 4) rfl rfl (by decide) rfl (fun ls hl => ?_)
  refine lv_goto (tgt := 10) hx hb dX9_work_345 (by decide) ?_
  exact hr10 σ1 x2 (y1 + y0) (x5 + 1) hf H locs ls hP hS (lv_sub hl [2, 3, 4, 1, 0] rfl)
def fX9_work_305 (b : Nat) (v : Nat) (rec10 : St → Int32 → Int32 → Int32 → Option (Int32 × St)) (σ : St) (x2 : Int32) (x4 : Int32) (x5 : Int32) (x6 : Int32) (x10 : Int32) : Option (Int32 × St) :=
(if 1 < x6 then
(if 3 < x6 then
fX9_work_328 b v rec10 σ x2 x5 x10 (-1) x4
else
fX9_work_328 b v rec10 σ x2 x5 x10 0 x4)
else
fX9_work_328 b v rec10 σ x2 x5 x10 1 x4)
set_option maxHeartbeats 4000000 in
theorem b_fX9_work_305 {E : Ev} {l : Launch} {p : Program} {e : Env} {s : State} {m : MethodId} {args : Array Value} {below : List Frame} {meth : Method} {c : Code} {b : Nat} (hfb : fW b) {v : Nat} (hfv : fA v) (C : CX true E RX9 cX9_work 11 (some .int) p s m args meth c) {rr : Int32} {sr : St} (rec10 : St → Int32 → Int32 → Int32 → Option (Int32 × St)) (hr10 : ∀ (σ : St) (x2 : Int32) (x4 : Int32) (x5 : Int32), rec10 σ x2 x4 x5 = some (rr, sr) → GW true l (rmD 2) E 11 p e s m args below meth c (MQ below (QI true E rr sr s.heap.size) args s 0 0 (aW true E s.heap.size)) σ 10 [(0, .ref (ea E b)), (2, .int x2), (3, .ref (ea E v)), (4, .int x4), (5, .int x5)] []) : ∀ (σ : St) (x2 : Int32) (x4 : Int32) (x5 : Int32) (x6 : Int32) (x10 : Int32), fX9_work_305 b v rec10 σ x2 x4 x5 x6 x10 = some (rr, sr) → GW true l (rmD 2) E 11 p e s m args below meth c (MQ below (QI true E rr sr s.heap.size) args s 0 0 (aW true E s.heap.size)) σ 305 [(0, .ref (ea E b)), (2, .int x2), (3, .ref (ea E v)), (4, .int x4), (5, .int x5), (6, .int x6), (10, .int x10)] [] := by
  intro σ x2 x4 x5 x6 x10 hf H locs ls hP hS hl
  obtain ⟨hx, hb, hr, hml, hown, hts, hlocks, hK, hX, hj⟩ := id C
  unfold fX9_work_305 at hf
  refine lv_iload hx hb dX9_work_305 (lv_at hl 3 rfl) ?_
  refine lv_iload hx hb dX9_work_307 (lv_at hl 5 rfl) ?_
  refine lv_iconst (v := 1) hx hb dX9_work_309 (by decide) ?_
  refine lv_icmp_gt (tgt := 317) hx hb dX9_work_310 (by decide) (fun c1 => ?_) (fun c1 => ?_)
  · replace hf := it_t c1 hf
    refine lv_iload hx hb dX9_work_317 (lv_at hl 5 rfl) ?_
    refine lv_iconst (v := 3) hx hb dX9_work_319 (by decide) ?_
    refine lv_icmp_gt (tgt := 327) hx hb dX9_work_320 (by decide) (fun c2 => ?_) (fun c2 => ?_)
    · replace hf := it_t c2 hf
      refine lv_iconst (v := (-1)) hx hb dX9_work_327 (by decide) ?_
      exact b_fX9_work_328 hfb hfv C rec10 hr10 σ x2 x5 x10 (-1) x4 hf H locs ls hP hS (lv_sub hl [0, 1, 2, 4, 6] rfl)
    · replace hf := it_f c2 hf
      refine lv_iconst (v := 0) hx hb dX9_work_323 (by decide) ?_
      refine lv_goto (tgt := 328) hx hb dX9_work_324 (by decide) ?_
      exact b_fX9_work_328 hfb hfv C rec10 hr10 σ x2 x5 x10 0 x4 hf H locs ls hP hS (lv_sub hl [0, 1, 2, 4, 6] rfl)
  · replace hf := it_f c1 hf
    refine lv_iconst (v := 1) hx hb dX9_work_313 (by decide) ?_
    refine lv_goto (tgt := 328) hx hb dX9_work_314 (by decide) ?_
    exact b_fX9_work_328 hfb hfv C rec10 hr10 σ x2 x5 x10 1 x4 hf H locs ls hP hS (lv_sub hl [0, 1, 2, 4, 6] rfl)
def fX9_work_10B (b : Nat) (v : Nat) (rec10 : St → Int32 → Int32 → Int32 → Option (Int32 × St)) (σ : St) (x2 : Int32) (x4 : Int32) (x5 : Int32) : Option (Int32 × St) :=
(if x2 ≤ x5 then
fX9_work_348 b v σ x4
else
(if 600 ≤ x5 then
fX9_work_348 b v σ x4
else
(if x4 < 2 then
some (0, σ)
else
(if x4 < 32 then
(rdK 600 (σ (b + 1)) x5 fun v5 =>
(rdK 600 (σ (b + 1)) x5 fun v7 =>
(rdK 32 (σ (b + 6)) (x4 - 2) fun v9 =>
(rdK 32 (σ (b + 6)) (x4 - 1) fun v11 =>
(if (v5 / 16384) = 0 then
fX9_work_305 b v rec10 σ x2 x4 x5 (v5 / 16384) (v7 - v7 / 16384 * 16384)
else
(if (v5 / 16384) = 1 then
(if (nI (aaN v)) ≤ (v7 - v7 / 16384 * 16384) then
fX9_work_305 b v rec10 σ x2 x4 x5 (v5 / 16384) 0
else
(rdK (aaN v) (σ v) (v7 - v7 / 16384 * 16384) fun v16 =>
fX9_work_305 b v rec10 σ x2 x4 x5 (v5 / 16384) v16))
else
(if (v5 / 16384) = 2 then
(if (v7 - v7 / 16384 * 16384) = 0 then
fX9_work_305 b v rec10 σ x2 x4 x5 (v5 / 16384) 0
else
(nz (v7 - v7 / 16384 * 16384) (
fX9_work_305 b v rec10 σ x2 x4 x5 (v5 / 16384) (v11 / (v7 - v7 / 16384 * 16384)))))
else
(if (v5 / 16384) = 3 then
fX9_work_305 b v rec10 σ x2 x4 x5 (v5 / 16384) (1 - v11)
else
(if (v5 / 16384) = 4 then
fX9_work_305 b v rec10 σ x2 x4 x5 (v5 / 16384) (v9 + v11)
else
(if (v5 / 16384) = 5 then
fX9_work_305 b v rec10 σ x2 x4 x5 (v5 / 16384) (v9 - v11)
else
(if (v5 / 16384) = 6 then
fX9_work_305 b v rec10 σ x2 x4 x5 (v5 / 16384) (v9 * v11)
else
(if (v5 / 16384) = 7 then
(if v11 ≤ v9 then
fX9_work_305 b v rec10 σ x2 x4 x5 (v5 / 16384) 0
else
fX9_work_305 b v rec10 σ x2 x4 x5 (v5 / 16384) 1)
else
(if (v5 / 16384) = 8 then
(if v9 = v11 then
fX9_work_305 b v rec10 σ x2 x4 x5 (v5 / 16384) 1
else
fX9_work_305 b v rec10 σ x2 x4 x5 (v5 / 16384) 0)
else
(if (v5 / 16384) = 9 then
(if v9 ≤ v11 then
fX9_work_305 b v rec10 σ x2 x4 x5 (v5 / 16384) 0
else
fX9_work_305 b v rec10 σ x2 x4 x5 (v5 / 16384) 1)
else
(if (v5 / 16384) = 10 then
fX9_work_305 b v rec10 σ x2 x4 x5 (v5 / 16384) (v9 &&& v11)
else
fX9_work_305 b v rec10 σ x2 x4 x5 (v5 / 16384) (v9 ||| v11))))))))))))))))
else
some (0, σ)))))
set_option maxHeartbeats 4000000 in
theorem b_fX9_work_10B {E : Ev} {l : Launch} {p : Program} {e : Env} {s : State} {m : MethodId} {args : Array Value} {below : List Frame} {meth : Method} {c : Code} {b : Nat} (hfb : fW b) {v : Nat} (hfv : fA v) (C : CX true E RX9 cX9_work 11 (some .int) p s m args meth c) {rr : Int32} {sr : St} (rec10 : St → Int32 → Int32 → Int32 → Option (Int32 × St)) (hr10 : ∀ (σ : St) (x2 : Int32) (x4 : Int32) (x5 : Int32), rec10 σ x2 x4 x5 = some (rr, sr) → GW true l (rmD 2) E 11 p e s m args below meth c (MQ below (QI true E rr sr s.heap.size) args s 0 0 (aW true E s.heap.size)) σ 10 [(0, .ref (ea E b)), (2, .int x2), (3, .ref (ea E v)), (4, .int x4), (5, .int x5)] []) : ∀ (σ : St) (x2 : Int32) (x4 : Int32) (x5 : Int32), fX9_work_10B b v rec10 σ x2 x4 x5 = some (rr, sr) → GW true l (rmD 2) E 11 p e s m args below meth c (MQ below (QI true E rr sr s.heap.size) args s 0 0 (aW true E s.heap.size)) σ 10 [(0, .ref (ea E b)), (2, .int x2), (3, .ref (ea E v)), (4, .int x4), (5, .int x5)] [] := by
  intro σ x2 x4 x5 hf H locs ls hP hS hl
  obtain ⟨hx, hb, hr, hml, hown, hts, hlocks, hK, hX, hj⟩ := id C
  unfold fX9_work_10B at hf
  refine lv_iload hx hb dX9_work_10 (lv_at hl 4 rfl) ?_
  refine lv_iload_n hx hb dX9_work_12 rfl (lv_at hl 1 rfl) ?_
  refine lv_icmp_ge (tgt := 348) hx hb dX9_work_13 (by decide) (fun c1 => ?_) (fun c1 => ?_)
  · replace hf := it_t c1 hf
    exact b_fX9_work_348 hfb hfv C σ x4 hf H locs ls hP hS (lv_sub hl [0, 3] rfl)
  · replace hf := it_f c1 hf
    refine lv_iload hx hb dX9_work_16 (lv_at hl 4 rfl) ?_
    refine lv_sipush (v := 600) hx hb dX9_work_18 (by decide) ?_
    refine lv_icmp_ge (tgt := 348) hx hb dX9_work_21 (by decide) (fun c2 => ?_) (fun c2 => ?_)
    · replace hf := it_t c2 hf
      exact b_fX9_work_348 hfb hfv C σ x4 hf H locs ls hP hS (lv_sub hl [0, 3] rfl)
    · replace hf := it_f c2 hf
      refine lv_iload hx hb dX9_work_24 (lv_at hl 3 rfl) ?_
      refine lv_iconst (v := 2) hx hb dX9_work_26 (by decide) ?_
      refine lv_icmp_lt (tgt := 37) hx hb dX9_work_27 (by decide) (fun c3 => ?_) (fun c3 => ?_)
      · replace hf := it_t c3 hf
        refine lv_iconst (v := 0) hx hb dX9_work_37 (by decide) ?_
        cases hf
        exact r_iret C hP hS dX9_work_38
      · replace hf := it_f c3 hf
        refine lv_iload hx hb dX9_work_30 (lv_at hl 3 rfl) ?_
        refine lv_bipush (v := 32) hx hb dX9_work_32 (by decide) ?_
        refine lv_icmp_lt (tgt := 39) hx hb dX9_work_34 (by decide) (fun c4 => ?_) (fun c4 => ?_)
        · replace hf := it_t c4 hf
          refine lv_aload_n hx hb dX9_work_39 rfl (lv_at hl 0 rfl) ?_
          refine r_get (k := 2) (v := .ref (ea E (b + 1))) C hP (oW hfb) rfl iX9 (by decide) wm_t139 rfl rfl dX9_work_40 ?_
          refine lv_iload hx hb dX9_work_43 (lv_at hl 4 rfl) ?_
          have h6 := (rdK_e hf).1
          refine r_ald C hP (aW_1 hfb) h6 dX9_work_45 ?_
          refine lv_topi (fun v5 ev5 => ?_)
          replace hf := rdK_n ev5 hf
          refine lv_sipush (v := 16384) hx hb dX9_work_46 (by decide) ?_
          refine lv_idiv hx hb dX9_work_49 (by decide) ?_
          refine lv_istore (lv' := [(6, .int (v5 / 16384)), (0, .ref (ea E b)), (2, .int x2), (3, .ref (ea E v)), (4, .int x4), (5, .int x5)]) hx hb dX9_work_50 hl (by decide) rfl (fun ls hl => ?_)
          refine lv_aload_n hx hb dX9_work_52 rfl (lv_at hl 1 rfl) ?_
          refine r_get (k := 2) (v := .ref (ea E (b + 1))) C hP (oW hfb) rfl iX9 (by decide) wm_t139 rfl rfl dX9_work_53 ?_
          refine lv_iload hx hb dX9_work_56 (lv_at hl 5 rfl) ?_
          have h8 := (rdK_e hf).1
          refine r_ald C hP (aW_1 hfb) h8 dX9_work_58 ?_
          refine lv_topi (fun v7 ev7 => ?_)
          replace hf := rdK_n ev7 hf
          refine lv_sipush (v := 16384) hx hb dX9_work_59 (by decide) ?_
          refine lv_irem hx hb dX9_work_62 (by decide) ?_
          refine lv_istore (lv' := [(7, .int (v7 - v7 / 16384 * 16384)), (6, .int (v5 / 16384)), (0, .ref (ea E b)), (2, .int x2), (3, .ref (ea E v)), (4, .int x4), (5, .int x5)]) hx hb dX9_work_63 hl (by decide) rfl (fun ls hl => ?_)
          refine lv_aload_n hx hb dX9_work_65 rfl (lv_at hl 2 rfl) ?_
          refine r_get (k := 7) (v := .ref (ea E (b + 6))) C hP (oW hfb) rfl iX9 (by decide) wm_t144 rfl rfl dX9_work_66 ?_
          refine lv_iload hx hb dX9_work_69 (lv_at hl 5 rfl) ?_
          refine lv_iconst (v := 2) hx hb dX9_work_71 (by decide) ?_
          refine lv_isub hx hb dX9_work_72 ?_
          have h10 := (rdK_e hf).1
          refine r_ald C hP (aW_6 hfb) h10 dX9_work_73 ?_
          refine lv_topi (fun v9 ev9 => ?_)
          replace hf := rdK_n ev9 hf
          refine lv_istore (lv' := [(8, .int v9), (7, .int (v7 - v7 / 16384 * 16384)), (6, .int (v5 / 16384)), (0, .ref (ea E b)), (2, .int x2), (3, .ref (ea E v)), (4, .int x4), (5, .int x5)]) hx hb dX9_work_74 hl (by decide) rfl (fun ls hl => ?_)
          refine lv_aload_n hx hb dX9_work_76 rfl (lv_at hl 3 rfl) ?_
          refine r_get (k := 7) (v := .ref (ea E (b + 6))) C hP (oW hfb) rfl iX9 (by decide) wm_t144 rfl rfl dX9_work_77 ?_
          refine lv_iload hx hb dX9_work_80 (lv_at hl 6 rfl) ?_
          refine lv_iconst (v := 1) hx hb dX9_work_82 (by decide) ?_
          refine lv_isub hx hb dX9_work_83 ?_
          have h12 := (rdK_e hf).1
          refine r_ald C hP (aW_6 hfb) h12 dX9_work_84 ?_
          refine lv_topi (fun v11 ev11 => ?_)
          replace hf := rdK_n ev11 hf
          refine lv_istore (lv' := [(9, .int v11), (8, .int v9), (7, .int (v7 - v7 / 16384 * 16384)), (6, .int (v5 / 16384)), (0, .ref (ea E b)), (2, .int x2), (3, .ref (ea E v)), (4, .int x4), (5, .int x5)]) hx hb dX9_work_85 hl (by decide) rfl (fun ls hl => ?_)
          refine lv_iconst (v := 0) hx hb dX9_work_87 (by decide) ?_
          refine lv_istore (lv' := [(10, .int 0), (9, .int v11), (8, .int v9), (7, .int (v7 - v7 / 16384 * 16384)), (6, .int (v5 / 16384)), (0, .ref (ea E b)), (2, .int x2), (3, .ref (ea E v)), (4, .int x4), (5, .int x5)]) hx hb dX9_work_88 hl (by decide) rfl (fun ls hl => ?_)
          refine lv_iload hx hb dX9_work_90 (lv_at hl 4 rfl) ?_
          by_cases c13 : (v5 / 16384) = 0
          · replace hf := it_t c13 hf
            refine lv_tableIn (tgt := 152) hx hb dX9_work_92 (by rw [c13]; decide) (by rw [c13]; decide) (by rw [c13]; rfl) (by decide) ?_
            refine lv_iload hx hb dX9_work_152 (lv_at hl 3 rfl) ?_
            refine lv_istore (lv' := [(10, .int (v7 - v7 / 16384 * 16384)), (9, .int v11), (8, .int v9), (7, .int (v7 - v7 / 16384 * 16384)), (6, .int (v5 / 16384)), (0, .ref (ea E b)), (2, .int x2), (3, .ref (ea E v)), (4, .int x4), (5, .int x5)]) hx hb dX9_work_154 hl (by decide) rfl (fun ls hl => ?_)
            refine lv_goto (tgt := 305) hx hb dX9_work_156 (by decide) ?_
            exact b_fX9_work_305 hfb hfv C rec10 hr10 σ x2 x4 x5 (v5 / 16384) (v7 - v7 / 16384 * 16384) hf H locs ls hP hS (lv_sub hl [5, 6, 7, 8, 9, 4, 0] rfl)
          · replace hf := it_f c13 hf
            by_cases c14 : (v5 / 16384) = 1
            · replace hf := it_t c14 hf
              refine lv_tableIn (tgt := 159) hx hb dX9_work_92 (by rw [c14]; decide) (by rw [c14]; decide) (by rw [c14]; rfl) (by decide) ?_
              refine lv_iload hx hb dX9_work_159 (lv_at hl 3 rfl) ?_
              refine lv_aload_n hx hb dX9_work_161 rfl (lv_at hl 7 rfl) ?_
              refine r_alen (v := (nI (aaN v))) C hP (aAA hfv) rfl dX9_work_162 ?_
              refine lv_icmp_ge (tgt := 173) hx hb dX9_work_163 (by decide) (fun c15 => ?_) (fun c15 => ?_)
              · replace hf := it_t c15 hf
                refine lv_iconst (v := 0) hx hb dX9_work_173 (by decide) ?_
                refine lv_istore (lv' := [(10, .int 0), (9, .int v11), (8, .int v9), (7, .int (v7 - v7 / 16384 * 16384)), (6, .int (v5 / 16384)), (0, .ref (ea E b)), (2, .int x2), (3, .ref (ea E v)), (4, .int x4), (5, .int x5)]) hx hb dX9_work_174 hl (by decide) rfl (fun ls hl => ?_)
                refine lv_goto (tgt := 305) hx hb dX9_work_176 (by decide) ?_
                exact b_fX9_work_305 hfb hfv C rec10 hr10 σ x2 x4 x5 (v5 / 16384) 0 hf H locs ls hP hS (lv_sub hl [5, 6, 7, 8, 9, 4, 0] rfl)
              · replace hf := it_f c15 hf
                refine lv_aload_n hx hb dX9_work_166 rfl (lv_at hl 7 rfl) ?_
                refine lv_iload hx hb dX9_work_167 (lv_at hl 3 rfl) ?_
                have h17 := (rdK_e hf).1
                refine r_ald C hP (aAA hfv) h17 dX9_work_169 ?_
                refine lv_topi (fun v16 ev16 => ?_)
                replace hf := rdK_n ev16 hf
                refine lv_goto (tgt := 174) hx hb dX9_work_170 (by decide) ?_
                refine lv_istore (lv' := [(10, .int v16), (9, .int v11), (8, .int v9), (7, .int (v7 - v7 / 16384 * 16384)), (6, .int (v5 / 16384)), (0, .ref (ea E b)), (2, .int x2), (3, .ref (ea E v)), (4, .int x4), (5, .int x5)]) hx hb dX9_work_174 hl (by decide) rfl (fun ls hl => ?_)
                refine lv_goto (tgt := 305) hx hb dX9_work_176 (by decide) ?_
                exact b_fX9_work_305 hfb hfv C rec10 hr10 σ x2 x4 x5 (v5 / 16384) v16 hf H locs ls hP hS (lv_sub hl [5, 6, 7, 8, 9, 4, 0] rfl)
            · replace hf := it_f c14 hf
              by_cases c18 : (v5 / 16384) = 2
              · replace hf := it_t c18 hf
                refine lv_tableIn (tgt := 179) hx hb dX9_work_92 (by rw [c18]; decide) (by rw [c18]; decide) (by rw [c18]; rfl) (by decide) ?_
                refine lv_iload hx hb dX9_work_179 (lv_at hl 3 rfl) ?_
                refine lv_if_ne (tgt := 188) hx hb dX9_work_181 (by decide) (fun c19 => ?_) (fun c19 => ?_)
                · replace hf := it_f c19 hf
                  refine lv_iload hx hb dX9_work_188 (lv_at hl 1 rfl) ?_
                  refine lv_iload hx hb dX9_work_190 (lv_at hl 3 rfl) ?_
                  obtain ⟨h20, hf⟩ := nz_e hf
                  refine lv_idiv hx hb dX9_work_192 h20 ?_
                  refine lv_istore (lv' := [(10, .int (v11 / (v7 - v7 / 16384 * 16384))), (9, .int v11), (8, .int v9), (7, .int (v7 - v7 / 16384 * 16384)), (6, .int (v5 / 16384)), (0, .ref (ea E b)), (2, .int x2), (3, .ref (ea E v)), (4, .int x4), (5, .int x5)]) hx hb dX9_work_193 hl (by decide) rfl (fun ls hl => ?_)
                  refine lv_goto (tgt := 305) hx hb dX9_work_195 (by decide) ?_
                  exact b_fX9_work_305 hfb hfv C rec10 hr10 σ x2 x4 x5 (v5 / 16384) (v11 / (v7 - v7 / 16384 * 16384)) hf H locs ls hP hS (lv_sub hl [5, 6, 7, 8, 9, 4, 0] rfl)
                · replace hf := it_t c19 hf
                  refine lv_iconst (v := 0) hx hb dX9_work_184 (by decide) ?_
                  refine lv_goto (tgt := 193) hx hb dX9_work_185 (by decide) ?_
                  refine lv_istore (lv' := [(10, .int 0), (9, .int v11), (8, .int v9), (7, .int (v7 - v7 / 16384 * 16384)), (6, .int (v5 / 16384)), (0, .ref (ea E b)), (2, .int x2), (3, .ref (ea E v)), (4, .int x4), (5, .int x5)]) hx hb dX9_work_193 hl (by decide) rfl (fun ls hl => ?_)
                  refine lv_goto (tgt := 305) hx hb dX9_work_195 (by decide) ?_
                  exact b_fX9_work_305 hfb hfv C rec10 hr10 σ x2 x4 x5 (v5 / 16384) 0 hf H locs ls hP hS (lv_sub hl [5, 6, 7, 8, 9, 4, 0] rfl)
              · replace hf := it_f c18 hf
                by_cases c21 : (v5 / 16384) = 3
                · replace hf := it_t c21 hf
                  refine lv_tableIn (tgt := 198) hx hb dX9_work_92 (by rw [c21]; decide) (by rw [c21]; decide) (by rw [c21]; rfl) (by decide) ?_
                  refine lv_iconst (v := 1) hx hb dX9_work_198 (by decide) ?_
                  refine lv_iload hx hb dX9_work_199 (lv_at hl 1 rfl) ?_
                  refine lv_isub hx hb dX9_work_201 ?_
                  refine lv_istore (lv' := [(10, .int (1 - v11)), (9, .int v11), (8, .int v9), (7, .int (v7 - v7 / 16384 * 16384)), (6, .int (v5 / 16384)), (0, .ref (ea E b)), (2, .int x2), (3, .ref (ea E v)), (4, .int x4), (5, .int x5)]) hx hb dX9_work_202 hl (by decide) rfl (fun ls hl => ?_)
                  refine lv_goto (tgt := 305) hx hb dX9_work_204 (by decide) ?_
                  exact b_fX9_work_305 hfb hfv C rec10 hr10 σ x2 x4 x5 (v5 / 16384) (1 - v11) hf H locs ls hP hS (lv_sub hl [5, 6, 7, 8, 9, 4, 0] rfl)
                · replace hf := it_f c21 hf
                  by_cases c22 : (v5 / 16384) = 4
                  · replace hf := it_t c22 hf
                    refine lv_tableIn (tgt := 207) hx hb dX9_work_92 (by rw [c22]; decide) (by rw [c22]; decide) (by rw [c22]; rfl) (by decide) ?_
                    refine lv_iload hx hb dX9_work_207 (lv_at hl 2 rfl) ?_
                    refine lv_iload hx hb dX9_work_209 (lv_at hl 1 rfl) ?_
                    refine lv_iadd hx hb dX9_work_211 ?_
                    refine lv_istore (lv' := [(10, .int (v9 + v11)), (9, .int v11), (8, .int v9), (7, .int (v7 - v7 / 16384 * 16384)), (6, .int (v5 / 16384)), (0, .ref (ea E b)), (2, .int x2), (3, .ref (ea E v)), (4, .int x4), (5, .int x5)]) hx hb dX9_work_212 hl (by decide) rfl (fun ls hl => ?_)
                    refine lv_goto (tgt := 305) hx hb dX9_work_214 (by decide) ?_
                    exact b_fX9_work_305 hfb hfv C rec10 hr10 σ x2 x4 x5 (v5 / 16384) (v9 + v11) hf H locs ls hP hS (lv_sub hl [5, 6, 7, 8, 9, 4, 0] rfl)
                  · replace hf := it_f c22 hf
                    by_cases c23 : (v5 / 16384) = 5
                    · replace hf := it_t c23 hf
                      refine lv_tableIn (tgt := 217) hx hb dX9_work_92 (by rw [c23]; decide) (by rw [c23]; decide) (by rw [c23]; rfl) (by decide) ?_
                      refine lv_iload hx hb dX9_work_217 (lv_at hl 2 rfl) ?_
                      refine lv_iload hx hb dX9_work_219 (lv_at hl 1 rfl) ?_
                      refine lv_isub hx hb dX9_work_221 ?_
                      refine lv_istore (lv' := [(10, .int (v9 - v11)), (9, .int v11), (8, .int v9), (7, .int (v7 - v7 / 16384 * 16384)), (6, .int (v5 / 16384)), (0, .ref (ea E b)), (2, .int x2), (3, .ref (ea E v)), (4, .int x4), (5, .int x5)]) hx hb dX9_work_222 hl (by decide) rfl (fun ls hl => ?_)
                      refine lv_goto (tgt := 305) hx hb dX9_work_224 (by decide) ?_
                      exact b_fX9_work_305 hfb hfv C rec10 hr10 σ x2 x4 x5 (v5 / 16384) (v9 - v11) hf H locs ls hP hS (lv_sub hl [5, 6, 7, 8, 9, 4, 0] rfl)
                    · replace hf := it_f c23 hf
                      by_cases c24 : (v5 / 16384) = 6
                      · replace hf := it_t c24 hf
                        refine lv_tableIn (tgt := 227) hx hb dX9_work_92 (by rw [c24]; decide) (by rw [c24]; decide) (by rw [c24]; rfl) (by decide) ?_
                        refine lv_iload hx hb dX9_work_227 (lv_at hl 2 rfl) ?_
                        refine lv_iload hx hb dX9_work_229 (lv_at hl 1 rfl) ?_
                        refine lv_imul hx hb dX9_work_231 ?_
                        refine lv_istore (lv' := [(10, .int (v9 * v11)), (9, .int v11), (8, .int v9), (7, .int (v7 - v7 / 16384 * 16384)), (6, .int (v5 / 16384)), (0, .ref (ea E b)), (2, .int x2), (3, .ref (ea E v)), (4, .int x4), (5, .int x5)]) hx hb dX9_work_232 hl (by decide) rfl (fun ls hl => ?_)
                        refine lv_goto (tgt := 305) hx hb dX9_work_234 (by decide) ?_
                        exact b_fX9_work_305 hfb hfv C rec10 hr10 σ x2 x4 x5 (v5 / 16384) (v9 * v11) hf H locs ls hP hS (lv_sub hl [5, 6, 7, 8, 9, 4, 0] rfl)
                      · replace hf := it_f c24 hf
                        by_cases c25 : (v5 / 16384) = 7
                        · replace hf := it_t c25 hf
                          refine lv_tableIn (tgt := 237) hx hb dX9_work_92 (by rw [c25]; decide) (by rw [c25]; decide) (by rw [c25]; rfl) (by decide) ?_
                          refine lv_iload hx hb dX9_work_237 (lv_at hl 2 rfl) ?_
                          refine lv_iload hx hb dX9_work_239 (lv_at hl 1 rfl) ?_
                          refine lv_icmp_ge (tgt := 248) hx hb dX9_work_241 (by decide) (fun c26 => ?_) (fun c26 => ?_)
                          · replace hf := it_t c26 hf
                            refine lv_iconst (v := 0) hx hb dX9_work_248 (by decide) ?_
                            refine lv_istore (lv' := [(10, .int 0), (9, .int v11), (8, .int v9), (7, .int (v7 - v7 / 16384 * 16384)), (6, .int (v5 / 16384)), (0, .ref (ea E b)), (2, .int x2), (3, .ref (ea E v)), (4, .int x4), (5, .int x5)]) hx hb dX9_work_249 hl (by decide) rfl (fun ls hl => ?_)
                            refine lv_goto (tgt := 305) hx hb dX9_work_251 (by decide) ?_
                            exact b_fX9_work_305 hfb hfv C rec10 hr10 σ x2 x4 x5 (v5 / 16384) 0 hf H locs ls hP hS (lv_sub hl [5, 6, 7, 8, 9, 4, 0] rfl)
                          · replace hf := it_f c26 hf
                            refine lv_iconst (v := 1) hx hb dX9_work_244 (by decide) ?_
                            refine lv_goto (tgt := 249) hx hb dX9_work_245 (by decide) ?_
                            refine lv_istore (lv' := [(10, .int 1), (9, .int v11), (8, .int v9), (7, .int (v7 - v7 / 16384 * 16384)), (6, .int (v5 / 16384)), (0, .ref (ea E b)), (2, .int x2), (3, .ref (ea E v)), (4, .int x4), (5, .int x5)]) hx hb dX9_work_249 hl (by decide) rfl (fun ls hl => ?_)
                            refine lv_goto (tgt := 305) hx hb dX9_work_251 (by decide) ?_
                            exact b_fX9_work_305 hfb hfv C rec10 hr10 σ x2 x4 x5 (v5 / 16384) 1 hf H locs ls hP hS (lv_sub hl [5, 6, 7, 8, 9, 4, 0] rfl)
                        · replace hf := it_f c25 hf
                          by_cases c27 : (v5 / 16384) = 8
                          · replace hf := it_t c27 hf
                            refine lv_tableIn (tgt := 254) hx hb dX9_work_92 (by rw [c27]; decide) (by rw [c27]; decide) (by rw [c27]; rfl) (by decide) ?_
                            refine lv_iload hx hb dX9_work_254 (lv_at hl 2 rfl) ?_
                            refine lv_iload hx hb dX9_work_256 (lv_at hl 1 rfl) ?_
                            refine lv_icmp_ne (tgt := 265) hx hb dX9_work_258 (by decide) (fun c28 => ?_) (fun c28 => ?_)
                            · replace hf := it_f c28 hf
                              refine lv_iconst (v := 0) hx hb dX9_work_265 (by decide) ?_
                              refine lv_istore (lv' := [(10, .int 0), (9, .int v11), (8, .int v9), (7, .int (v7 - v7 / 16384 * 16384)), (6, .int (v5 / 16384)), (0, .ref (ea E b)), (2, .int x2), (3, .ref (ea E v)), (4, .int x4), (5, .int x5)]) hx hb dX9_work_266 hl (by decide) rfl (fun ls hl => ?_)
                              refine lv_goto (tgt := 305) hx hb dX9_work_268 (by decide) ?_
                              exact b_fX9_work_305 hfb hfv C rec10 hr10 σ x2 x4 x5 (v5 / 16384) 0 hf H locs ls hP hS (lv_sub hl [5, 6, 7, 8, 9, 4, 0] rfl)
                            · replace hf := it_t c28 hf
                              refine lv_iconst (v := 1) hx hb dX9_work_261 (by decide) ?_
                              refine lv_goto (tgt := 266) hx hb dX9_work_262 (by decide) ?_
                              refine lv_istore (lv' := [(10, .int 1), (9, .int v11), (8, .int v9), (7, .int (v7 - v7 / 16384 * 16384)), (6, .int (v5 / 16384)), (0, .ref (ea E b)), (2, .int x2), (3, .ref (ea E v)), (4, .int x4), (5, .int x5)]) hx hb dX9_work_266 hl (by decide) rfl (fun ls hl => ?_)
                              refine lv_goto (tgt := 305) hx hb dX9_work_268 (by decide) ?_
                              exact b_fX9_work_305 hfb hfv C rec10 hr10 σ x2 x4 x5 (v5 / 16384) 1 hf H locs ls hP hS (lv_sub hl [5, 6, 7, 8, 9, 4, 0] rfl)
                          · replace hf := it_f c27 hf
                            by_cases c29 : (v5 / 16384) = 9
                            · replace hf := it_t c29 hf
                              refine lv_tableIn (tgt := 271) hx hb dX9_work_92 (by rw [c29]; decide) (by rw [c29]; decide) (by rw [c29]; rfl) (by decide) ?_
                              refine lv_iload hx hb dX9_work_271 (lv_at hl 2 rfl) ?_
                              refine lv_iload hx hb dX9_work_273 (lv_at hl 1 rfl) ?_
                              refine lv_icmp_le (tgt := 282) hx hb dX9_work_275 (by decide) (fun c30 => ?_) (fun c30 => ?_)
                              · replace hf := it_t c30 hf
                                refine lv_iconst (v := 0) hx hb dX9_work_282 (by decide) ?_
                                refine lv_istore (lv' := [(10, .int 0), (9, .int v11), (8, .int v9), (7, .int (v7 - v7 / 16384 * 16384)), (6, .int (v5 / 16384)), (0, .ref (ea E b)), (2, .int x2), (3, .ref (ea E v)), (4, .int x4), (5, .int x5)]) hx hb dX9_work_283 hl (by decide) rfl (fun ls hl => ?_)
                                refine lv_goto (tgt := 305) hx hb dX9_work_285 (by decide) ?_
                                exact b_fX9_work_305 hfb hfv C rec10 hr10 σ x2 x4 x5 (v5 / 16384) 0 hf H locs ls hP hS (lv_sub hl [5, 6, 7, 8, 9, 4, 0] rfl)
                              · replace hf := it_f c30 hf
                                refine lv_iconst (v := 1) hx hb dX9_work_278 (by decide) ?_
                                refine lv_goto (tgt := 283) hx hb dX9_work_279 (by decide) ?_
                                refine lv_istore (lv' := [(10, .int 1), (9, .int v11), (8, .int v9), (7, .int (v7 - v7 / 16384 * 16384)), (6, .int (v5 / 16384)), (0, .ref (ea E b)), (2, .int x2), (3, .ref (ea E v)), (4, .int x4), (5, .int x5)]) hx hb dX9_work_283 hl (by decide) rfl (fun ls hl => ?_)
                                refine lv_goto (tgt := 305) hx hb dX9_work_285 (by decide) ?_
                                exact b_fX9_work_305 hfb hfv C rec10 hr10 σ x2 x4 x5 (v5 / 16384) 1 hf H locs ls hP hS (lv_sub hl [5, 6, 7, 8, 9, 4, 0] rfl)
                            · replace hf := it_f c29 hf
                              by_cases c31 : (v5 / 16384) = 10
                              · replace hf := it_t c31 hf
                                refine lv_tableIn (tgt := 288) hx hb dX9_work_92 (by rw [c31]; decide) (by rw [c31]; decide) (by rw [c31]; rfl) (by decide) ?_
                                refine lv_iload hx hb dX9_work_288 (lv_at hl 2 rfl) ?_
                                refine lv_iload hx hb dX9_work_290 (lv_at hl 1 rfl) ?_
                                refine lv_iand hx hb dX9_work_292 ?_
                                refine lv_istore (lv' := [(10, .int (v9 &&& v11)), (9, .int v11), (8, .int v9), (7, .int (v7 - v7 / 16384 * 16384)), (6, .int (v5 / 16384)), (0, .ref (ea E b)), (2, .int x2), (3, .ref (ea E v)), (4, .int x4), (5, .int x5)]) hx hb dX9_work_293 hl (by decide) rfl (fun ls hl => ?_)
                                refine lv_goto (tgt := 305) hx hb dX9_work_295 (by decide) ?_
                                exact b_fX9_work_305 hfb hfv C rec10 hr10 σ x2 x4 x5 (v5 / 16384) (v9 &&& v11) hf H locs ls hP hS (lv_sub hl [5, 6, 7, 8, 9, 4, 0] rfl)
                              · replace hf := it_f c31 hf
                                have nc13 := lv_neT (a := 0) c13 (by decide)
                                have nc14 := lv_neT (a := 1) c14 (by decide)
                                have nc18 := lv_neT (a := 2) c18 (by decide)
                                have nc21 := lv_neT (a := 3) c21 (by decide)
                                have nc22 := lv_neT (a := 4) c22 (by decide)
                                have nc23 := lv_neT (a := 5) c23 (by decide)
                                have nc24 := lv_neT (a := 6) c24 (by decide)
                                have nc25 := lv_neT (a := 7) c25 (by decide)
                                have nc27 := lv_neT (a := 8) c27 (by decide)
                                have nc29 := lv_neT (a := 9) c29 (by decide)
                                have nc31 := lv_neT (a := 10) c31 (by decide)
                                refine lv_tableOut (tgt := 298) hx hb dX9_work_92 (by omega) (by decide) ?_
                                refine lv_iload hx hb dX9_work_298 (lv_at hl 2 rfl) ?_
                                refine lv_iload hx hb dX9_work_300 (lv_at hl 1 rfl) ?_
                                refine lv_ior hx hb dX9_work_302 ?_
                                refine lv_istore (lv' := [(10, .int (v9 ||| v11)), (9, .int v11), (8, .int v9), (7, .int (v7 - v7 / 16384 * 16384)), (6, .int (v5 / 16384)), (0, .ref (ea E b)), (2, .int x2), (3, .ref (ea E v)), (4, .int x4), (5, .int x5)]) hx hb dX9_work_303 hl (by decide) rfl (fun ls hl => ?_)
                                exact b_fX9_work_305 hfb hfv C rec10 hr10 σ x2 x4 x5 (v5 / 16384) (v9 ||| v11) hf H locs ls hP hS (lv_sub hl [5, 6, 7, 8, 9, 4, 0] rfl)
        · replace hf := it_f c4 hf
          refine lv_iconst (v := 0) hx hb dX9_work_37 (by decide) ?_
          cases hf
          exact r_iret C hP hS dX9_work_38
def fX9_work_10 (b : Nat) (v : Nat) : Nat → St → Int32 → Int32 → Int32 → Option (Int32 × St)
  | 0 => fun _ _ _ _ => none
  | n + 1 => fun σ x2 x4 x5 => fX9_work_10B b v (fX9_work_10 b v n) σ x2 x4 x5
theorem b_fX9_work_10 {E : Ev} {l : Launch} {p : Program} {e : Env} {s : State} {m : MethodId} {args : Array Value} {below : List Frame} {meth : Method} {c : Code} {b : Nat} (hfb : fW b) {v : Nat} (hfv : fA v) (C : CX true E RX9 cX9_work 11 (some .int) p s m args meth c) {rr : Int32} {sr : St} : ∀ (n : Nat) (σ : St) (x2 : Int32) (x4 : Int32) (x5 : Int32), fX9_work_10 b v n σ x2 x4 x5 = some (rr, sr) → GW true l (rmD 2) E 11 p e s m args below meth c (MQ below (QI true E rr sr s.heap.size) args s 0 0 (aW true E s.heap.size)) σ 10 [(0, .ref (ea E b)), (2, .int x2), (3, .ref (ea E v)), (4, .int x4), (5, .int x5)] [] := by
  intro n
  induction n with
  | zero => intro σ x2 x4 x5 hf; have hf : (none : Option _) = some _ := hf; cases hf
  | succ n ih => intro σ x2 x4 x5 hf; exact b_fX9_work_10B hfb hfv C (fX9_work_10 b v n) ih σ x2 x4 x5 hf
def fX9_work (b : Nat) (v : Nat) (σ : St) (a0 : Int32) (a1 : Int32) : Option (Int32 × St) :=
fX9_work_10 b v FU σ a1 2 (if 0 < a0 then a0 else 0)
set_option maxHeartbeats 4000000 in
theorem c_fX9_work {E : Ev} {l : Launch} {b : Nat} (hfb : fW b) {v : Nat} (hfv : fA v) (hj : jW true E) (σ : St) (sz : Nat) (a0 : Int32) (a1 : Int32) {rr : Int32} {sr : St} (hf : fX9_work b v σ a0 a1 = some (rr, sr)) : Met l yX9_work (Cond.code yX9_work cX9_work 11 (some .int) :: gT) (rmD 2) (va_Pc [.ref (ea E b), .int a0, .int a1, .ref (ea E v)] (preW true E σ sz)) (QI true E rr sr sz) 0 0 (aW true E sz) := by
  refine r_entry (QI true E rr sr) hj (by decide) [.ref (ea E b), .int a0, .int a1, .ref (ea E v)] (Nat.le_of_ble_eq_true rfl) (fun p e s m args below meth c C => ?_)
  intro H locs ls hP hS hl
  have hl : lv_has ls 11 [(0, .ref (ea E b)), (1, .int a0), (2, .int a1), (3, .ref (ea E v))] := hl
  obtain ⟨hx, hb, hr, hml, hown, hts, hlocks, hK, hX, hj⟩ := id C
  unfold fX9_work at hf
  refine lv_iconst (v := 2) hx hb dX9_work_0 (by decide) ?_
  refine lv_istore (lv' := [(4, .int 2), (0, .ref (ea E b)), (1, .int a0), (2, .int a1), (3, .ref (ea E v))]) hx hb dX9_work_1 hl (by decide) rfl (fun ls hl => ?_)
  refine lv_iconst (v := 0) hx hb dX9_work_3 (by decide) ?_
  refine lv_iload_n hx hb dX9_work_4 rfl (lv_at hl 2 rfl) ?_
  refine va_mmax hx hb (hml.trans hl.1.symm) hown (hts _ wm_t690) (hts _ wm_t50) (hts _ wm_t4) (hts _ wm_t51) (by decide) (Nat.le_of_ble_eq_true rfl) (Nat.zero_le _) (Nat.zero_le _) dX9_work_5 ?_
  refine lv_istore (lv' := [(5, .int (if 0 < a0 then a0 else 0)), (4, .int 2), (0, .ref (ea E b)), (1, .int a0), (2, .int a1), (3, .ref (ea E v))]) hx hb dX9_work_8 hl (by decide) rfl (fun ls hl => ?_)
  exact b_fX9_work_10 hfb hfv C FU σ a1 2 (if 0 < a0 then a0 else 0) hf H locs ls hP hS (lv_sub hl [2, 4, 5, 1, 0] rfl)
