def fX4_personPart (σ : St) (a0 : Int32) : Option (Int32 × St) :=
(if (fX4_numberHere σ) = (-1) then
(cb (fX4_fail σ 1) fun r11 σ13 =>
(zb r11 (some (r11, σ13))))
else
(if (fX4_numberHere σ) < 4 then
(cv (fX4_advance σ) fun σ4 =>
(gw (σ4 24 7) fun w5 =>
(cv (fX9_beginLine w5 σ4 a0 (fX4_numberHere σ)) fun σ7 =>
some (1, σ7))))
else
(cb (fX4_fail σ 2) fun r8 σ10 =>
(zb r8 (some (r8, σ10))))))
set_option maxHeartbeats 4000000 in
theorem c_fX4_personPart {E : Ev} {l : Launch} (hj : jW true E) (σ : St) (sz : Nat) (a0 : Int32) {rr : Int32} {sr : St} (hf : fX4_personPart σ a0 = some (rr, sr)) : Met l yX4_personPart (Cond.code yX4_personPart cX4_personPart 3 (some .boolean) :: gT) (rmD 2) (va_Pc [.ref (ea E 24), .int a0] (preW true E σ sz)) (QI true E rr sr sz) 0 0 (aW true E sz) := by
  refine r_entry (QI true E rr sr) hj (by decide) [.ref (ea E 24), .int a0] (Nat.le_of_ble_eq_true rfl) (fun p e s m args below meth c C => ?_)
  intro H locs ls hP hS hl
  have hl : lv_has ls 3 [(0, .ref (ea E 24)), (1, .int a0)] := hl
  obtain ⟨hx, hb, hr, hml, hown, hts, hlocks, hK, hX, hj⟩ := id C
  unfold fX4_personPart at hf
  refine lv_aload_n hx hb dX4_personPart_0 rfl (lv_at hl 0 rfl) ?_
  refine r_cVi (n := 0) (As := []) (rest := []) C (c_fX4_numberHere hj σ H.size) oC_24 rfl gv_RX4_136 (by decide +kernel) (rmD_le (by decide) (by decide)) rfl rfl (Nat.le_of_ble_eq_true rfl) dX4_personPart_1 hP hS hl.1 (fun H locs hP hS => ?_)
  refine lv_istore_n (lv' := [(2, .int (fX4_numberHere σ)), (0, .ref (ea E 24)), (1, .int a0)]) hx hb dX4_personPart_4 rfl hl (by decide) rfl (fun ls hl => ?_)
  refine lv_iload_n hx hb dX4_personPart_5 rfl (lv_at hl 0 rfl) ?_
  refine lv_iconst (v := (-1)) hx hb dX4_personPart_6 (by decide) ?_
  refine lv_icmp_ne (tgt := 16) hx hb dX4_personPart_7 (by decide) (fun c1 => ?_) (fun c1 => ?_)
  · replace hf := it_f c1 hf
    refine lv_iload_n hx hb dX4_personPart_16 rfl (lv_at hl 0 rfl) ?_
    refine lv_iconst (v := 4) hx hb dX4_personPart_17 (by decide) ?_
    refine lv_icmp_lt (tgt := 27) hx hb dX4_personPart_18 (by decide) (fun c2 => ?_) (fun c2 => ?_)
    · replace hf := it_t c2 hf
      refine lv_aload_n hx hb dX4_personPart_27 rfl (lv_at hl 1 rfl) ?_
      obtain ⟨σ4, hc3, hf⟩ := cv_e hf
      refine r_cVv (n := 0) (As := []) (rest := []) C (c_fX4_advance hj σ H.size hc3) oC_24 rfl gv_RX4_95 (by decide +kernel) (rmD_le (by decide) (by decide)) rfl rfl (Nat.le_of_ble_eq_true rfl) dX4_personPart_28 hP hS hl.1 (fun H locs hP hS => ?_)
      refine lv_aload_n hx hb dX4_personPart_31 rfl (lv_at hl 1 rfl) ?_
      refine r_get (k := 7) (v := .ref (ea E (σ4 24 7).toNatClampNeg)) C hP oC_24 rfl iX4 (by decide) wm_t169 rfl rfl dX4_personPart_32 ?_
      obtain ⟨w5, ew5, hw5, hf⟩ := gw_e hf
      rw [ew5]
      refine lv_iload_n hx hb dX4_personPart_35 rfl (lv_at hl 2 rfl) ?_
      refine lv_iload_n hx hb dX4_personPart_36 rfl (lv_at hl 0 rfl) ?_
      obtain ⟨σ7, hc6, hf⟩ := cv_e hf
      refine r_cVv (n := 2) (As := [.int a0, .int (fX4_numberHere σ)]) (rest := []) C (c_fX9_beginLine hw5 hj σ4 H.size a0 (fX4_numberHere σ) hc6) (oW hw5) rfl gv_RX4_129 (by decide +kernel) (rmD_le (by decide) (by decide)) rfl rfl (Nat.le_of_ble_eq_true rfl) dX4_personPart_37 hP hS hl.1 (fun H locs hP hS => ?_)
      refine lv_iconst (v := 1) hx hb dX4_personPart_40 (by decide) ?_
      cases hf
      exact r_zret C rfl hP hS dX4_personPart_41
    · replace hf := it_f c2 hf
      refine lv_aload_n hx hb dX4_personPart_21 rfl (lv_at hl 1 rfl) ?_
      refine lv_iconst (v := 2) hx hb dX4_personPart_22 (by decide) ?_
      obtain ⟨r8, σ10, hc9, hf⟩ := cb_e hf
      refine r_cVi (n := 1) (As := [.int 2]) (rest := []) C (c_fX4_fail hj σ H.size 2 hc9) oC_24 rfl gv_RX4_105 (by decide +kernel) (rmD_le (by decide) (by decide)) rfl rfl (Nat.le_of_ble_eq_true rfl) dX4_personPart_23 hP hS hl.1 (fun H locs hP hS => ?_)
      obtain ⟨hz, hf⟩ := zb_e hf
      cases hf
      exact r_zret C (zb_nar hz) hP hS dX4_personPart_26
  · replace hf := it_t c1 hf
    refine lv_aload_n hx hb dX4_personPart_10 rfl (lv_at hl 1 rfl) ?_
    refine lv_iconst (v := 1) hx hb dX4_personPart_11 (by decide) ?_
    obtain ⟨r11, σ13, hc12, hf⟩ := cb_e hf
    refine r_cVi (n := 1) (As := [.int 1]) (rest := []) C (c_fX4_fail hj σ H.size 1 hc12) oC_24 rfl gv_RX4_105 (by decide +kernel) (rmD_le (by decide) (by decide)) rfl rfl (Nat.le_of_ble_eq_true rfl) dX4_personPart_12 hP hS hl.1 (fun H locs hP hS => ?_)
    obtain ⟨hz, hf⟩ := zb_e hf
    cases hf
    exact r_zret C (zb_nar hz) hP hS dX4_personPart_15
def fX4_unit_59 (σ : St) : Option (Int32 × St) :=
(cv (fX4_advance σ) fun σ2 =>
some (1, σ2))
set_option maxHeartbeats 4000000 in
theorem b_fX4_unit_59 {E : Ev} {l : Launch} {p : Program} {e : Env} {s : State} {m : MethodId} {args : Array Value} {below : List Frame} {meth : Method} {c : Code} (C : CX true E RX4 cX4_unit 2 (some .boolean) p s m args meth c) {rr : Int32} {sr : St} : ∀ (σ : St), fX4_unit_59 σ = some (rr, sr) → GW true l (rmD 2) E 2 p e s m args below meth c (MQ below (QI true E rr sr s.heap.size) args s 0 0 (aW true E s.heap.size)) σ 59 [(0, .ref (ea E 24))] [] := by
  intro σ hf H locs ls hP hS hl
  obtain ⟨hx, hb, hr, hml, hown, hts, hlocks, hK, hX, hj⟩ := id C
  unfold fX4_unit_59 at hf
  refine lv_aload_n hx hb dX4_unit_59 rfl (lv_at hl 0 rfl) ?_
  obtain ⟨σ2, hc1, hf⟩ := cv_e hf
  refine r_cVv (n := 0) (As := []) (rest := []) C (c_fX4_advance hj σ H.size hc1) oC_24 rfl gv_RX4_95 (by decide +kernel) (rmD_le (by decide) (by decide)) rfl rfl (Nat.le_of_ble_eq_true rfl) dX4_unit_60 hP hS hl.1 (fun H locs hP hS => ?_)
  refine lv_iconst (v := 1) hx hb dX4_unit_63 (by decide) ?_
  cases hf
  exact r_zret C rfl hP hS dX4_unit_64
def fX4_unit (σ : St) : Option (Int32 × St) :=
(if (fX4_numberHere σ) = (-1) then
(if (((σ 24 5) - 260) - (fX4_headKinds σ)) < 0 then
(cb (fX4_fail σ 1) fun r3 σ5 =>
(zb r3 (some (r3, σ5))))
else
(gw (σ 24 7) fun w6 =>
(cv (fX9_add w6 σ 1 (((σ 24 5) - 260) - (fX4_headKinds σ))) fun σ8 =>
fX4_unit_59 σ8)))
else
(gw (σ 24 7) fun w9 =>
(cv (fX9_add w9 σ 0 (fX4_numberHere σ)) fun σ11 =>
fX4_unit_59 σ11)))
set_option maxHeartbeats 4000000 in
theorem c_fX4_unit {E : Ev} {l : Launch} (hj : jW true E) (σ : St) (sz : Nat) {rr : Int32} {sr : St} (hf : fX4_unit σ = some (rr, sr)) : Met l yX4_unit (Cond.code yX4_unit cX4_unit 2 (some .boolean) :: gT) (rmD 2) (va_Pc [.ref (ea E 24)] (preW true E σ sz)) (QI true E rr sr sz) 0 0 (aW true E sz) := by
  refine r_entry (QI true E rr sr) hj (by decide) [.ref (ea E 24)] (Nat.le_of_ble_eq_true rfl) (fun p e s m args below meth c C => ?_)
  intro H locs ls hP hS hl
  have hl : lv_has ls 2 [(0, .ref (ea E 24))] := hl
  obtain ⟨hx, hb, hr, hml, hown, hts, hlocks, hK, hX, hj⟩ := id C
  unfold fX4_unit at hf
  refine lv_aload_n hx hb dX4_unit_0 rfl (lv_at hl 0 rfl) ?_
  refine r_get (k := 5) (v := .int (σ 24 5)) C hP oC_24 rfl iX4 (by decide) wm_t167 rfl rfl dX4_unit_1 ?_
  refine lv_sipush (v := 260) hx hb dX4_unit_4 (by decide) ?_
  refine lv_isub hx hb dX4_unit_7 ?_
  refine lv_aload_n hx hb dX4_unit_8 rfl (lv_at hl 0 rfl) ?_
  refine r_cVi (n := 0) (As := []) (rest := [.int ((σ 24 5) - 260)]) C (c_fX4_headKinds hj σ H.size) oC_24 rfl gv_RX4_98 (by decide +kernel) (rmD_le (by decide) (by decide)) rfl rfl (Nat.le_of_ble_eq_true rfl) dX4_unit_9 hP hS hl.1 (fun H locs hP hS => ?_)
  refine lv_isub hx hb dX4_unit_12 ?_
  refine lv_istore_n (lv' := [(1, .int (((σ 24 5) - 260) - (fX4_headKinds σ))), (0, .ref (ea E 24))]) hx hb dX4_unit_13 rfl hl (by decide) rfl (fun ls hl => ?_)
  refine lv_aload_n hx hb dX4_unit_14 rfl (lv_at hl 1 rfl) ?_
  refine r_cVi (n := 0) (As := []) (rest := []) C (c_fX4_numberHere hj σ H.size) oC_24 rfl gv_RX4_136 (by decide +kernel) (rmD_le (by decide) (by decide)) rfl rfl (Nat.le_of_ble_eq_true rfl) dX4_unit_15 hP hS hl.1 (fun H locs hP hS => ?_)
  refine lv_iconst (v := (-1)) hx hb dX4_unit_18 (by decide) ?_
  refine lv_icmp_eq (tgt := 37) hx hb dX4_unit_19 (by decide) (fun c1 => ?_) (fun c1 => ?_)
  · replace hf := it_t c1 hf
    refine lv_iload_n hx hb dX4_unit_37 rfl (lv_at hl 0 rfl) ?_
    refine lv_if_lt (tgt := 53) hx hb dX4_unit_38 (by decide) (fun c2 => ?_) (fun c2 => ?_)
    · replace hf := it_t c2 hf
      refine lv_aload_n hx hb dX4_unit_53 rfl (lv_at hl 1 rfl) ?_
      refine lv_iconst (v := 1) hx hb dX4_unit_54 (by decide) ?_
      obtain ⟨r3, σ5, hc4, hf⟩ := cb_e hf
      refine r_cVi (n := 1) (As := [.int 1]) (rest := []) C (c_fX4_fail hj σ H.size 1 hc4) oC_24 rfl gv_RX4_105 (by decide +kernel) (rmD_le (by decide) (by decide)) rfl rfl (Nat.le_of_ble_eq_true rfl) dX4_unit_55 hP hS hl.1 (fun H locs hP hS => ?_)
      obtain ⟨hz, hf⟩ := zb_e hf
      cases hf
      exact r_zret C (zb_nar hz) hP hS dX4_unit_58
    · replace hf := it_f c2 hf
      refine lv_aload_n hx hb dX4_unit_41 rfl (lv_at hl 1 rfl) ?_
      refine r_get (k := 7) (v := .ref (ea E (σ 24 7).toNatClampNeg)) C hP oC_24 rfl iX4 (by decide) wm_t169 rfl rfl dX4_unit_42 ?_
      obtain ⟨w6, ew6, hw6, hf⟩ := gw_e hf
      rw [ew6]
      refine lv_iconst (v := 1) hx hb dX4_unit_45 (by decide) ?_
      refine lv_iload_n hx hb dX4_unit_46 rfl (lv_at hl 0 rfl) ?_
      obtain ⟨σ8, hc7, hf⟩ := cv_e hf
      refine r_cVv (n := 2) (As := [.int 1, .int (((σ 24 5) - 260) - (fX4_headKinds σ))]) (rest := []) C (c_fX9_add hw6 hj σ H.size 1 (((σ 24 5) - 260) - (fX4_headKinds σ)) hc7) (oW hw6) rfl gv_RX4_142 (by decide +kernel) (rmD_le (by decide) (by decide)) rfl rfl (Nat.le_of_ble_eq_true rfl) dX4_unit_47 hP hS hl.1 (fun H locs hP hS => ?_)
      refine lv_goto (tgt := 59) hx hb dX4_unit_50 (by decide) ?_
      exact b_fX4_unit_59 C σ8 hf H locs ls hP hS (lv_sub hl [1] rfl)
  · replace hf := it_f c1 hf
    refine lv_aload_n hx hb dX4_unit_22 rfl (lv_at hl 1 rfl) ?_
    refine r_get (k := 7) (v := .ref (ea E (σ 24 7).toNatClampNeg)) C hP oC_24 rfl iX4 (by decide) wm_t169 rfl rfl dX4_unit_23 ?_
    obtain ⟨w9, ew9, hw9, hf⟩ := gw_e hf
    rw [ew9]
    refine lv_iconst (v := 0) hx hb dX4_unit_26 (by decide) ?_
    refine lv_aload_n hx hb dX4_unit_27 rfl (lv_at hl 1 rfl) ?_
    refine r_cVi (n := 0) (As := []) (rest := [.int 0, .ref (ea E w9)]) C (c_fX4_numberHere hj σ H.size) oC_24 rfl gv_RX4_136 (by decide +kernel) (rmD_le (by decide) (by decide)) rfl rfl (Nat.le_of_ble_eq_true rfl) dX4_unit_28 hP hS hl.1 (fun H locs hP hS => ?_)
    obtain ⟨σ11, hc10, hf⟩ := cv_e hf
    refine r_cVv (n := 2) (As := [.int 0, .int (fX4_numberHere σ)]) (rest := []) C (c_fX9_add hw9 hj σ H.size 0 (fX4_numberHere σ) hc10) (oW hw9) rfl gv_RX4_142 (by decide +kernel) (rmD_le (by decide) (by decide)) rfl rfl (Nat.le_of_ble_eq_true rfl) dX4_unit_31 hP hS hl.1 (fun H locs hP hS => ?_)
    refine lv_goto (tgt := 59) hx hb dX4_unit_34 (by decide) ?_
    exact b_fX4_unit_59 C σ11 hf H locs ls hP hS (lv_sub hl [1] rfl)
def fX4_parts_2B (rec2 : St → Int32 → Option (Int32 × St)) (σ : St) (x1 : Int32) : Option (Int32 × St) :=
(if 600 < x1 then
some (1, σ)
else
(if (σ 24 5) = 47 then
(cv (fX4_advance σ) fun σ4 =>
(if (fX4_numberHere σ4) = (-1) then
(cb (fX4_fail σ4 1) fun r15 σ17 =>
(zb r15 (some (r15, σ17))))
else
(if (fX4_numberHere σ4) = 0 then
(cb (fX4_fail σ4 2) fun r12 σ14 =>
(zb r12 (some (r12, σ14))))
else
(cv (fX4_advance σ4) fun σ8 =>
(gw (σ8 24 7) fun w9 =>
(cv (fX9_add w9 σ8 2 (fX4_numberHere σ4)) fun σ11 =>
rec2 σ11 (x1 + 1)))))))
else
some (1, σ)))
set_option maxHeartbeats 4000000 in
theorem b_fX4_parts_2B {E : Ev} {l : Launch} {p : Program} {e : Env} {s : State} {m : MethodId} {args : Array Value} {below : List Frame} {meth : Method} {c : Code} (C : CX true E RX4 cX4_parts 3 (some .boolean) p s m args meth c) {rr : Int32} {sr : St} (rec2 : St → Int32 → Option (Int32 × St)) (hr2 : ∀ (σ : St) (x1 : Int32), rec2 σ x1 = some (rr, sr) → GW true l (rmD 2) E 3 p e s m args below meth c (MQ below (QI true E rr sr s.heap.size) args s 0 0 (aW true E s.heap.size)) σ 2 [(0, .ref (ea E 24)), (1, .int x1)] []) : ∀ (σ : St) (x1 : Int32), fX4_parts_2B rec2 σ x1 = some (rr, sr) → GW true l (rmD 2) E 3 p e s m args below meth c (MQ below (QI true E rr sr s.heap.size) args s 0 0 (aW true E s.heap.size)) σ 2 [(0, .ref (ea E 24)), (1, .int x1)] [] := by
  intro σ x1 hf H locs ls hP hS hl
  obtain ⟨hx, hb, hr, hml, hown, hts, hlocks, hK, hX, hj⟩ := id C
  unfold fX4_parts_2B at hf
  refine lv_iload_n hx hb dX4_parts_2 rfl (lv_at hl 1 rfl) ?_
  refine lv_sipush (v := 600) hx hb dX4_parts_3 (by decide) ?_
  refine lv_icmp_gt (tgt := 67) hx hb dX4_parts_6 (by decide) (fun c1 => ?_) (fun c1 => ?_)
  · replace hf := it_t c1 hf
    refine lv_iconst (v := 1) hx hb dX4_parts_67 (by decide) ?_
    cases hf
    exact r_zret C rfl hP hS dX4_parts_68
  · replace hf := it_f c1 hf
    refine lv_aload_n hx hb dX4_parts_9 rfl (lv_at hl 0 rfl) ?_
    refine r_get (k := 5) (v := .int (σ 24 5)) C hP oC_24 rfl iX4 (by decide) wm_t167 rfl rfl dX4_parts_10 ?_
    refine lv_bipush (v := 47) hx hb dX4_parts_13 (by decide) ?_
    refine lv_icmp_ne (tgt := 67) hx hb dX4_parts_15 (by decide) (fun c2 => ?_) (fun c2 => ?_)
    · replace hf := it_f c2 hf
      refine lv_iconst (v := 1) hx hb dX4_parts_67 (by decide) ?_
      cases hf
      exact r_zret C rfl hP hS dX4_parts_68
    · replace hf := it_t c2 hf
      refine lv_aload_n hx hb dX4_parts_18 rfl (lv_at hl 0 rfl) ?_
      obtain ⟨σ4, hc3, hf⟩ := cv_e hf
      refine r_cVv (n := 0) (As := []) (rest := []) C (c_fX4_advance hj σ H.size hc3) oC_24 rfl gv_RX4_95 (by decide +kernel) (rmD_le (by decide) (by decide)) rfl rfl (Nat.le_of_ble_eq_true rfl) dX4_parts_19 hP hS hl.1 (fun H locs hP hS => ?_)
      refine lv_aload_n hx hb dX4_parts_22 rfl (lv_at hl 0 rfl) ?_
      refine r_cVi (n := 0) (As := []) (rest := []) C (c_fX4_numberHere hj σ4 H.size) oC_24 rfl gv_RX4_136 (by decide +kernel) (rmD_le (by decide) (by decide)) rfl rfl (Nat.le_of_ble_eq_true rfl) dX4_parts_23 hP hS hl.1 (fun H locs hP hS => ?_)
      refine lv_istore_n (lv' := [(2, .int (fX4_numberHere σ4)), (0, .ref (ea E 24)), (1, .int x1)]) hx hb dX4_parts_26 rfl hl (by decide) rfl (fun ls hl => ?_)
      refine lv_iload_n hx hb dX4_parts_27 rfl (lv_at hl 0 rfl) ?_
      refine lv_iconst (v := (-1)) hx hb dX4_parts_28 (by decide) ?_
      refine lv_icmp_ne (tgt := 38) hx hb dX4_parts_29 (by decide) (fun c5 => ?_) (fun c5 => ?_)
      · replace hf := it_f c5 hf
        refine lv_iload_n hx hb dX4_parts_38 rfl (lv_at hl 0 rfl) ?_
        refine lv_if_ne (tgt := 48) hx hb dX4_parts_39 (by decide) (fun c6 => ?_) (fun c6 => ?_)
        · replace hf := it_f c6 hf
          refine lv_aload_n hx hb dX4_parts_48 rfl (lv_at hl 1 rfl) ?_
          obtain ⟨σ8, hc7, hf⟩ := cv_e hf
          refine r_cVv (n := 0) (As := []) (rest := []) C (c_fX4_advance hj σ4 H.size hc7) oC_24 rfl gv_RX4_95 (by decide +kernel) (rmD_le (by decide) (by decide)) rfl rfl (Nat.le_of_ble_eq_true rfl) dX4_parts_49 hP hS hl.1 (fun H locs hP hS => ?_)
          refine lv_aload_n hx hb dX4_parts_52 rfl (lv_at hl 1 rfl) ?_
          refine r_get (k := 7) (v := .ref (ea E (σ8 24 7).toNatClampNeg)) C hP oC_24 rfl iX4 (by decide) wm_t169 rfl rfl dX4_parts_53 ?_
          obtain ⟨w9, ew9, hw9, hf⟩ := gw_e hf
          rw [ew9]
          refine lv_iconst (v := 2) hx hb dX4_parts_56 (by decide) ?_
          refine lv_iload_n hx hb dX4_parts_57 rfl (lv_at hl 0 rfl) ?_
          obtain ⟨σ11, hc10, hf⟩ := cv_e hf
          refine r_cVv (n := 2) (As := [.int 2, .int (fX4_numberHere σ4)]) (rest := []) C (c_fX9_add hw9 hj σ8 H.size 2 (fX4_numberHere σ4) hc10) (oW hw9) rfl gv_RX4_142 (by decide +kernel) (rmD_le (by decide) (by decide)) rfl rfl (Nat.le_of_ble_eq_true rfl) dX4_parts_58 hP hS hl.1 (fun H locs hP hS => ?_)
          refine lv_iinc (v := (x1 + 1)) (lv' := [(1, .int (x1 + 1)), (2, .int (fX4_numberHere σ4)), (0, .ref (ea E 24))]) hx hb dX4_parts_61 hl (k := 2) rfl rfl (by decide) rfl (fun ls hl => ?_)
          refine lv_goto (tgt := 2) hx hb dX4_parts_64 (by decide) ?_
          exact hr2 σ11 (x1 + 1) hf H locs ls hP hS (lv_sub hl [2, 0] rfl)
        · replace hf := it_t c6 hf
          refine lv_aload_n hx hb dX4_parts_42 rfl (lv_at hl 1 rfl) ?_
          refine lv_iconst (v := 2) hx hb dX4_parts_43 (by decide) ?_
          obtain ⟨r12, σ14, hc13, hf⟩ := cb_e hf
          refine r_cVi (n := 1) (As := [.int 2]) (rest := []) C (c_fX4_fail hj σ4 H.size 2 hc13) oC_24 rfl gv_RX4_105 (by decide +kernel) (rmD_le (by decide) (by decide)) rfl rfl (Nat.le_of_ble_eq_true rfl) dX4_parts_44 hP hS hl.1 (fun H locs hP hS => ?_)
          obtain ⟨hz, hf⟩ := zb_e hf
          cases hf
          exact r_zret C (zb_nar hz) hP hS dX4_parts_47
      · replace hf := it_t c5 hf
        refine lv_aload_n hx hb dX4_parts_32 rfl (lv_at hl 1 rfl) ?_
        refine lv_iconst (v := 1) hx hb dX4_parts_33 (by decide) ?_
        obtain ⟨r15, σ17, hc16, hf⟩ := cb_e hf
        refine r_cVi (n := 1) (As := [.int 1]) (rest := []) C (c_fX4_fail hj σ4 H.size 1 hc16) oC_24 rfl gv_RX4_105 (by decide +kernel) (rmD_le (by decide) (by decide)) rfl rfl (Nat.le_of_ble_eq_true rfl) dX4_parts_34 hP hS hl.1 (fun H locs hP hS => ?_)
        obtain ⟨hz, hf⟩ := zb_e hf
        cases hf
        exact r_zret C (zb_nar hz) hP hS dX4_parts_37
def fX4_parts_2 : Nat → St → Int32 → Option (Int32 × St)
  | 0 => fun _ _ => none
  | n + 1 => fun σ x1 => fX4_parts_2B (fX4_parts_2 n) σ x1
theorem b_fX4_parts_2 {E : Ev} {l : Launch} {p : Program} {e : Env} {s : State} {m : MethodId} {args : Array Value} {below : List Frame} {meth : Method} {c : Code} (C : CX true E RX4 cX4_parts 3 (some .boolean) p s m args meth c) {rr : Int32} {sr : St} : ∀ (n : Nat) (σ : St) (x1 : Int32), fX4_parts_2 n σ x1 = some (rr, sr) → GW true l (rmD 2) E 3 p e s m args below meth c (MQ below (QI true E rr sr s.heap.size) args s 0 0 (aW true E s.heap.size)) σ 2 [(0, .ref (ea E 24)), (1, .int x1)] [] := by
  intro n
  induction n with
  | zero => intro σ x1 hf; have hf : (none : Option _) = some _ := hf; cases hf
  | succ n ih => intro σ x1 hf; exact b_fX4_parts_2B C (fX4_parts_2 n) ih σ x1 hf
def fX4_parts (σ : St) : Option (Int32 × St) :=
fX4_parts_2 FU σ 0
set_option maxHeartbeats 4000000 in
theorem c_fX4_parts {E : Ev} {l : Launch} (hj : jW true E) (σ : St) (sz : Nat) {rr : Int32} {sr : St} (hf : fX4_parts σ = some (rr, sr)) : Met l yX4_parts (Cond.code yX4_parts cX4_parts 3 (some .boolean) :: gT) (rmD 2) (va_Pc [.ref (ea E 24)] (preW true E σ sz)) (QI true E rr sr sz) 0 0 (aW true E sz) := by
  refine r_entry (QI true E rr sr) hj (by decide) [.ref (ea E 24)] (Nat.le_of_ble_eq_true rfl) (fun p e s m args below meth c C => ?_)
  intro H locs ls hP hS hl
  have hl : lv_has ls 3 [(0, .ref (ea E 24))] := hl
  obtain ⟨hx, hb, hr, hml, hown, hts, hlocks, hK, hX, hj⟩ := id C
  unfold fX4_parts at hf
  refine lv_iconst (v := 0) hx hb dX4_parts_0 (by decide) ?_
  refine lv_istore_n (lv' := [(1, .int 0), (0, .ref (ea E 24))]) hx hb dX4_parts_1 rfl hl (by decide) rfl (fun ls hl => ?_)
  exact b_fX4_parts_2 C FU σ 0 hf H locs ls hP hS (lv_sub hl [1, 0] rfl)
def fX5_copyFrom (σ : St) : Option St :=
(cv (fX8_copyFrom σ) fun σ2 =>
(acK 7 7 σ2 (10 + 1) (17 + 1) 0 0 7 fun σ3 =>
(nmS (st_put σ3 17 2 (σ3 10 2)) fun σ5 =>
(zb (σ5 10 3) (
(nmS (st_put σ5 17 3 (σ5 10 3)) fun σ7 =>
(nmS (st_put σ7 17 4 (σ7 10 4)) fun σ8 =>
(nmS (st_put σ8 17 5 (σ8 10 5)) fun σ9 =>
(nmS (st_put σ9 17 6 (σ9 10 6)) fun σ10 =>
some σ10)))))))))
set_option maxHeartbeats 4000000 in
theorem c_fX5_copyFrom {E : Ev} {l : Launch} (hj : jW true E) (σ : St) (sz : Nat) {sr : St} (hf : fX5_copyFrom σ = some sr) : Met l yX5_copyFrom (Cond.code yX5_copyFrom cX5_copyFrom 2 none :: gT) (rmD 3) (va_Pc [.ref (ea E 17), .ref (ea E 10)] (preW true E σ sz)) (QV true E sr sz) 0 0 (aW true E sz) := by
  refine r_entry (QV true E sr) hj (by decide) [.ref (ea E 17), .ref (ea E 10)] (Nat.le_of_ble_eq_true rfl) (fun p e s m args below meth c C => ?_)
  intro H locs ls hP hS hl
  have hl : lv_has ls 2 [(0, .ref (ea E 17)), (1, .ref (ea E 10))] := hl
  obtain ⟨hx, hb, hr, hml, hown, hts, hlocks, hK, hX, hj⟩ := id C
  unfold fX5_copyFrom at hf
  refine lv_aload_n hx hb dX5_copyFrom_0 rfl (lv_at hl 0 rfl) ?_
  refine r_get (k := 0) (v := .ref (ea E (17 + 2))) C hP (oV fV_17) rfl iX5 (by decide) wm_t94 rfl rfl dX5_copyFrom_1 ?_
  refine lv_aload_n hx hb dX5_copyFrom_4 rfl (lv_at hl 1 rfl) ?_
  refine r_get (k := 0) (v := .ref (ea E (10 + 2))) C hP (oV fV_10) rfl iX5 (by decide) wm_t94 rfl rfl dX5_copyFrom_5 ?_
  obtain ⟨σ2, hc1, hf⟩ := cv_e hf
  refine r_cVv (n := 1) (As := [.ref (ea E (10 + 2))]) (rest := []) C (c_fX8_copyFrom hj σ H.size hc1) (oS (fV_S fV_17)) rfl gv_RX5_31 (by decide +kernel) (rmD_le (by decide) (by decide)) rfl rfl (Nat.le_of_ble_eq_true rfl) dX5_copyFrom_8 hP hS hl.1 (fun H locs hP hS => ?_)
  refine lv_aload_n hx hb dX5_copyFrom_11 rfl (lv_at hl 1 rfl) ?_
  refine r_get (k := 1) (v := .ref (ea E (10 + 1))) C hP (oV fV_10) rfl iX5 (by decide) wm_t96 rfl rfl dX5_copyFrom_12 ?_
  refine lv_iconst (v := 0) hx hb dX5_copyFrom_15 (by decide) ?_
  refine lv_aload_n hx hb dX5_copyFrom_16 rfl (lv_at hl 0 rfl) ?_
  refine r_get (k := 1) (v := .ref (ea E (17 + 1))) C hP (oV fV_17) rfl iX5 (by decide) wm_t96 rfl rfl dX5_copyFrom_17 ?_
  refine lv_iconst (v := 0) hx hb dX5_copyFrom_20 (by decide) ?_
  refine lv_aload_n hx hb dX5_copyFrom_21 rfl (lv_at hl 0 rfl) ?_
  refine r_get (k := 1) (v := .ref (ea E (17 + 1))) C hP (oV fV_17) rfl iX5 (by decide) wm_t96 rfl rfl dX5_copyFrom_22 ?_
  refine r_alen (v := 7) C hP (aV_1 fV_17) rfl dX5_copyFrom_25 ?_
  obtain ⟨h4, σ3, eσ3, hf⟩ := acK_e hf
  refine r_acp C hP hS hl.1 wm_t985 wm_t984 wm_t983 wm_t20 (aV_1 fV_10) (aV_1 fV_17) h4 (by decide) (Nat.le_of_ble_eq_true rfl) dX5_copyFrom_26 (fun H locs hP hS => ?_)
  rw [← eσ3] at hP
  refine lv_aload_n hx hb dX5_copyFrom_29 rfl (lv_at hl 0 rfl) ?_
  refine lv_aload_n hx hb dX5_copyFrom_30 rfl (lv_at hl 1 rfl) ?_
  refine r_get (k := 2) (v := .int (σ3 10 2)) C hP (oV fV_10) rfl iX5 (by decide) wm_t97 rfl rfl dX5_copyFrom_31 ?_
  refine r_put (k := 2) (x := (σ3 10 2)) C hP hS tyX5 tyX5_ok nmX5 (oV fV_17) rfl iX5 (by decide) wm_t97 rfl rfl sV_2 rfl rfl (Nat.le_of_ble_eq_true rfl) dX5_copyFrom_34 (fun H locs hP hS => ?_)
  obtain ⟨σ5, eσ5, hf⟩ := nmS_e hf
  rw [← eσ5] at hP
  refine lv_aload_n hx hb dX5_copyFrom_37 rfl (lv_at hl 0 rfl) ?_
  refine lv_aload_n hx hb dX5_copyFrom_38 rfl (lv_at hl 1 rfl) ?_
  refine r_get (k := 3) (v := .int (σ5 10 3)) C hP (oV fV_10) rfl iX5 (by decide) wm_t98 rfl rfl dX5_copyFrom_39 ?_
  obtain ⟨h6, hf⟩ := zb_e hf
  refine r_put (k := 3) (x := (σ5 10 3)) C hP hS tyX5 tyX5_ok nmX5 (oV fV_17) rfl iX5 (by decide) wm_t98 rfl rfl sV_3 (zb_nar h6) (zb_fit h6) (Nat.le_of_ble_eq_true rfl) dX5_copyFrom_42 (fun H locs hP hS => ?_)
  obtain ⟨σ7, eσ7, hf⟩ := nmS_e hf
  rw [← eσ7] at hP
  refine lv_aload_n hx hb dX5_copyFrom_45 rfl (lv_at hl 0 rfl) ?_
  refine lv_aload_n hx hb dX5_copyFrom_46 rfl (lv_at hl 1 rfl) ?_
  refine r_get (k := 4) (v := .int (σ7 10 4)) C hP (oV fV_10) rfl iX5 (by decide) wm_t100 rfl rfl dX5_copyFrom_47 ?_
  refine r_put (k := 4) (x := (σ7 10 4)) C hP hS tyX5 tyX5_ok nmX5 (oV fV_17) rfl iX5 (by decide) wm_t100 rfl rfl sV_4 rfl rfl (Nat.le_of_ble_eq_true rfl) dX5_copyFrom_50 (fun H locs hP hS => ?_)
  obtain ⟨σ8, eσ8, hf⟩ := nmS_e hf
  rw [← eσ8] at hP
  refine lv_aload_n hx hb dX5_copyFrom_53 rfl (lv_at hl 0 rfl) ?_
  refine lv_aload_n hx hb dX5_copyFrom_54 rfl (lv_at hl 1 rfl) ?_
  refine r_get (k := 5) (v := .int (σ8 10 5)) C hP (oV fV_10) rfl iX5 (by decide) wm_t102 rfl rfl dX5_copyFrom_55 ?_
  refine r_put (k := 5) (x := (σ8 10 5)) C hP hS tyX5 tyX5_ok nmX5 (oV fV_17) rfl iX5 (by decide) wm_t102 rfl rfl sV_5 rfl rfl (Nat.le_of_ble_eq_true rfl) dX5_copyFrom_58 (fun H locs hP hS => ?_)
  obtain ⟨σ9, eσ9, hf⟩ := nmS_e hf
  rw [← eσ9] at hP
  refine lv_aload_n hx hb dX5_copyFrom_61 rfl (lv_at hl 0 rfl) ?_
  refine lv_aload_n hx hb dX5_copyFrom_62 rfl (lv_at hl 1 rfl) ?_
  refine r_get (k := 6) (v := .int (σ9 10 6)) C hP (oV fV_10) rfl iX5 (by decide) wm_t104 rfl rfl dX5_copyFrom_63 ?_
  refine r_put (k := 6) (x := (σ9 10 6)) C hP hS tyX5 tyX5_ok nmX5 (oV fV_17) rfl iX5 (by decide) wm_t104 rfl rfl sV_6 rfl rfl (Nat.le_of_ble_eq_true rfl) dX5_copyFrom_66 (fun H locs hP hS => ?_)
  obtain ⟨σ10, eσ10, hf⟩ := nmS_e hf
  rw [← eσ10] at hP
  cases hf
  exact r_vret C hP hS dX5_copyFrom_69
def fX5_tellArm_22 (b : Nat) (σ : St) (x1 : Int32) (x2 : Int32) : Option (Int32 × St) :=
(if (fX10_within x1 7) = 0 then
some (0, σ)
else
(if (fX10_within x2 100) = 0 then
some (0, σ)
else
(wrK 7 σ (b + 1) x1 x2 fun σ3 =>
some (1, σ3))))
set_option maxHeartbeats 4000000 in
theorem b_fX5_tellArm_22 {E : Ev} {l : Launch} {p : Program} {e : Env} {s : State} {m : MethodId} {args : Array Value} {below : List Frame} {meth : Method} {c : Code} {b : Nat} (hfb : fV b) (C : CX true E RX5 cX5_tellArm 3 (some .boolean) p s m args meth c) {rr : Int32} {sr : St} : ∀ (σ : St) (x1 : Int32) (x2 : Int32), fX5_tellArm_22 b σ x1 x2 = some (rr, sr) → GW true l (rmD 2) E 3 p e s m args below meth c (MQ below (QI true E rr sr s.heap.size) args s 0 0 (aW true E s.heap.size)) σ 22 [(0, .ref (ea E b)), (1, .int x1), (2, .int x2)] [] := by
  intro σ x1 x2 hf H locs ls hP hS hl
  obtain ⟨hx, hb, hr, hml, hown, hts, hlocks, hK, hX, hj⟩ := id C
  unfold fX5_tellArm_22 at hf
  refine lv_iload_n hx hb dX5_tellArm_22 rfl (lv_at hl 1 rfl) ?_
  refine lv_aload_n hx hb dX5_tellArm_23 rfl (lv_at hl 0 rfl) ?_
  refine r_get (k := 1) (v := .ref (ea E (b + 1))) C hP (oV hfb) rfl iX5 (by decide) wm_t96 rfl rfl dX5_tellArm_24 ?_
  refine r_alen (v := 7) C hP (aV_1 hfb) rfl dX5_tellArm_27 ?_
  refine r_cNi (n := 2) (As := [.int x1, .int 7]) (rest := []) (host := "SoupCargo") C (c_fX10_within hj σ H.size x1 7) (by decide +kernel) wm_t343 wm_t1 wm_t342 (by decide +kernel) (rmD_le (by decide) (by decide)) rfl rfl (Nat.le_of_ble_eq_true rfl) dX5_tellArm_28 hP hS hl.1 (fun H locs hP hS => ?_)
  refine lv_if_eq (tgt := 43) hx hb dX5_tellArm_31 (by decide) (fun c1 => ?_) (fun c1 => ?_)
  · replace hf := it_t c1 hf
    refine lv_iconst (v := 0) hx hb dX5_tellArm_43 (by decide) ?_
    cases hf
    exact r_zret C rfl hP hS dX5_tellArm_44
  · replace hf := it_f c1 hf
    refine lv_iload_n hx hb dX5_tellArm_34 rfl (lv_at hl 2 rfl) ?_
    refine lv_bipush (v := 100) hx hb dX5_tellArm_35 (by decide) ?_
    refine r_cNi (n := 2) (As := [.int x2, .int 100]) (rest := []) (host := "SoupCargo") C (c_fX10_within hj σ H.size x2 100) (by decide +kernel) wm_t343 wm_t1 wm_t342 (by decide +kernel) (rmD_le (by decide) (by decide)) rfl rfl (Nat.le_of_ble_eq_true rfl) dX5_tellArm_37 hP hS hl.1 (fun H locs hP hS => ?_)
    refine lv_if_ne (tgt := 45) hx hb dX5_tellArm_40 (by decide) (fun c2 => ?_) (fun c2 => ?_)
    · replace hf := it_f c2 hf
      refine lv_aload_n hx hb dX5_tellArm_45 rfl (lv_at hl 0 rfl) ?_
      refine r_get (k := 1) (v := .ref (ea E (b + 1))) C hP (oV hfb) rfl iX5 (by decide) wm_t96 rfl rfl dX5_tellArm_46 ?_
      refine lv_iload_n hx hb dX5_tellArm_49 rfl (lv_at hl 1 rfl) ?_
      refine lv_iload_n hx hb dX5_tellArm_50 rfl (lv_at hl 2 rfl) ?_
      obtain ⟨h4, σ3, eσ3, hf⟩ := wrK_e hf
      refine r_ast C hP hS (aV_1 hfb) h4 dX5_tellArm_51 (fun H locs hP hS => ?_)
      rw [← eσ3] at hP
      refine lv_iconst (v := 1) hx hb dX5_tellArm_52 (by decide) ?_
      cases hf
      exact r_zret C rfl hP hS dX5_tellArm_53
    · replace hf := it_t c2 hf
      refine lv_iconst (v := 0) hx hb dX5_tellArm_43 (by decide) ?_
      cases hf
      exact r_zret C rfl hP hS dX5_tellArm_44
def fX5_tellArm (b : Nat) (σ : St) (a0 : Int32) (a1 : Int32) : Option (Int32 × St) :=
(if a0 = 7 then
(if (fX10_within a1 91) = 0 then
fX5_tellArm_22 b σ a0 a1
else
(nmS (st_put σ b 2 a1) fun σ3 =>
some (1, σ3)))
else
fX5_tellArm_22 b σ a0 a1)
set_option maxHeartbeats 4000000 in
theorem c_fX5_tellArm {E : Ev} {l : Launch} {b : Nat} (hfb : fV b) (hj : jW true E) (σ : St) (sz : Nat) (a0 : Int32) (a1 : Int32) {rr : Int32} {sr : St} (hf : fX5_tellArm b σ a0 a1 = some (rr, sr)) : Met l yX5_tellArm (Cond.code yX5_tellArm cX5_tellArm 3 (some .boolean) :: gT) (rmD 2) (va_Pc [.ref (ea E b), .int a0, .int a1] (preW true E σ sz)) (QI true E rr sr sz) 0 0 (aW true E sz) := by
  refine r_entry (QI true E rr sr) hj (by decide) [.ref (ea E b), .int a0, .int a1] (Nat.le_of_ble_eq_true rfl) (fun p e s m args below meth c C => ?_)
  intro H locs ls hP hS hl
  have hl : lv_has ls 3 [(0, .ref (ea E b)), (1, .int a0), (2, .int a1)] := hl
  obtain ⟨hx, hb, hr, hml, hown, hts, hlocks, hK, hX, hj⟩ := id C
  unfold fX5_tellArm at hf
  refine lv_iload_n hx hb dX5_tellArm_0 rfl (lv_at hl 1 rfl) ?_
  refine lv_bipush (v := 7) hx hb dX5_tellArm_1 (by decide) ?_
  refine lv_icmp_ne (tgt := 22) hx hb dX5_tellArm_3 (by decide) (fun c1 => ?_) (fun c1 => ?_)
  · replace hf := it_f c1 hf
    exact b_fX5_tellArm_22 hfb C σ a0 a1 hf H locs ls hP hS (lv_sub hl [0, 1, 2] rfl)
  · replace hf := it_t c1 hf
    refine lv_iload_n hx hb dX5_tellArm_6 rfl (lv_at hl 2 rfl) ?_
    refine lv_bipush (v := 91) hx hb dX5_tellArm_7 (by decide) ?_
    refine r_cNi (n := 2) (As := [.int a1, .int 91]) (rest := []) (host := "SoupCargo") C (c_fX10_within hj σ H.size a1 91) (by decide +kernel) wm_t343 wm_t1 wm_t342 (by decide +kernel) (rmD_le (by decide) (by decide)) rfl rfl (Nat.le_of_ble_eq_true rfl) dX5_tellArm_9 hP hS hl.1 (fun H locs hP hS => ?_)
    refine lv_if_eq (tgt := 22) hx hb dX5_tellArm_12 (by decide) (fun c2 => ?_) (fun c2 => ?_)
    · replace hf := it_t c2 hf
      exact b_fX5_tellArm_22 hfb C σ a0 a1 hf H locs ls hP hS (lv_sub hl [0, 1, 2] rfl)
    · replace hf := it_f c2 hf
      refine lv_aload_n hx hb dX5_tellArm_15 rfl (lv_at hl 0 rfl) ?_
      refine lv_iload_n hx hb dX5_tellArm_16 rfl (lv_at hl 2 rfl) ?_
      refine r_put (k := 2) (x := a1) C hP hS tyX5 tyX5_ok nmX5 (oV hfb) rfl iX5 (by decide) wm_t97 rfl rfl sV_2 rfl rfl (Nat.le_of_ble_eq_true rfl) dX5_tellArm_17 (fun H locs hP hS => ?_)
      obtain ⟨σ3, eσ3, hf⟩ := nmS_e hf
      rw [← eσ3] at hP
      refine lv_iconst (v := 1) hx hb dX5_tellArm_20 (by decide) ?_
      cases hf
      exact r_zret C rfl hP hS dX5_tellArm_21
def fX5_armTenths (b : Nat) (σ : St) (a0 : Int32) : Option Int32 :=
(if (fX10_within (a0 / 10) 7) = 0 then
some 0
else
(nm (if (7 - 1) < ((a0 / 10) + 1) then (7 - 1) else ((a0 / 10) + 1)) fun v2 =>
(rdK 7 (σ (b + 1)) (a0 / 10) fun v3 =>
(rdK 7 (σ (b + 1)) v2 fun v5 =>
(rdK 7 (σ (b + 1)) (a0 / 10) fun v7 =>
some ((10 * v3) + ((v5 - v7) * (a0 - a0 / 10 * 10))))))))
set_option maxHeartbeats 4000000 in
theorem c_fX5_armTenths {E : Ev} {l : Launch} {b : Nat} (hfb : fV b) (hj : jW true E) (σ : St) (sz : Nat) (a0 : Int32) {rr : Int32} (hf : fX5_armTenths b σ a0 = some rr) : Met l yX5_armTenths (Cond.code yX5_armTenths cX5_armTenths 4 (some .int) :: gT) (rmD 2) (va_Pc [.ref (ea E b), .int a0] (preW true E σ sz)) (QI true E rr σ sz) 0 0 (aW true E sz) := by
  refine r_entry (QI true E rr σ) hj (by decide) [.ref (ea E b), .int a0] (Nat.le_of_ble_eq_true rfl) (fun p e s m args below meth c C => ?_)
  intro H locs ls hP hS hl
  have hl : lv_has ls 4 [(0, .ref (ea E b)), (1, .int a0)] := hl
  obtain ⟨hx, hb, hr, hml, hown, hts, hlocks, hK, hX, hj⟩ := id C
  unfold fX5_armTenths at hf
  refine lv_iload_n hx hb dX5_armTenths_0 rfl (lv_at hl 1 rfl) ?_
  refine lv_bipush (v := 10) hx hb dX5_armTenths_1 (by decide) ?_
  refine lv_idiv hx hb dX5_armTenths_3 (by decide) ?_
  refine lv_istore_n (lv' := [(2, .int (a0 / 10)), (0, .ref (ea E b)), (1, .int a0)]) hx hb dX5_armTenths_4 rfl hl (by decide) rfl (fun ls hl => ?_)
  refine lv_iload_n hx hb dX5_armTenths_5 rfl (lv_at hl 0 rfl) ?_
  refine lv_aload_n hx hb dX5_armTenths_6 rfl (lv_at hl 1 rfl) ?_
  refine r_get (k := 1) (v := .ref (ea E (b + 1))) C hP (oV hfb) rfl iX5 (by decide) wm_t96 rfl rfl dX5_armTenths_7 ?_
  refine r_alen (v := 7) C hP (aV_1 hfb) rfl dX5_armTenths_10 ?_
  refine r_cNi (n := 2) (As := [.int (a0 / 10), .int 7]) (rest := []) (host := "SoupCargo") C (c_fX10_within hj σ H.size (a0 / 10) 7) (by decide +kernel) wm_t343 wm_t1 wm_t342 (by decide +kernel) (rmD_le (by decide) (by decide)) rfl rfl (Nat.le_of_ble_eq_true rfl) dX5_armTenths_11 hP hS hl.1 (fun H locs hP hS => ?_)
  refine lv_if_ne (tgt := 19) hx hb dX5_armTenths_14 (by decide) (fun c1 => ?_) (fun c1 => ?_)
  · replace hf := it_f c1 hf
    refine lv_iload_n hx hb dX5_armTenths_19 rfl (lv_at hl 0 rfl) ?_
    refine lv_iconst (v := 1) hx hb dX5_armTenths_20 (by decide) ?_
    refine lv_iadd hx hb dX5_armTenths_21 ?_
    refine lv_aload_n hx hb dX5_armTenths_22 rfl (lv_at hl 1 rfl) ?_
    refine r_get (k := 1) (v := .ref (ea E (b + 1))) C hP (oV hfb) rfl iX5 (by decide) wm_t96 rfl rfl dX5_armTenths_23 ?_
    refine r_alen (v := 7) C hP (aV_1 hfb) rfl dX5_armTenths_26 ?_
    refine lv_iconst (v := 1) hx hb dX5_armTenths_27 (by decide) ?_
    refine lv_isub hx hb dX5_armTenths_28 ?_
    refine va_mmin hx hb (hml.trans hl.1.symm) hown (hts _ wm_t748) (hts _ wm_t505) (hts _ wm_t4) (hts _ wm_t506) (by decide) (Nat.le_of_ble_eq_true rfl) (Nat.zero_le _) (Nat.zero_le _) dX5_armTenths_29 ?_
    refine lv_topi (fun v2 ev2 => ?_)
    replace hf := nm_i ev2 hf
    refine lv_istore_n (lv' := [(3, .int v2), (2, .int (a0 / 10)), (0, .ref (ea E b)), (1, .int a0)]) hx hb dX5_armTenths_32 rfl hl (by decide) rfl (fun ls hl => ?_)
    refine lv_bipush (v := 10) hx hb dX5_armTenths_33 (by decide) ?_
    refine lv_aload_n hx hb dX5_armTenths_35 rfl (lv_at hl 2 rfl) ?_
    refine r_get (k := 1) (v := .ref (ea E (b + 1))) C hP (oV hfb) rfl iX5 (by decide) wm_t96 rfl rfl dX5_armTenths_36 ?_
    refine lv_iload_n hx hb dX5_armTenths_39 rfl (lv_at hl 1 rfl) ?_
    have h4 := (rdK_e hf).1
    refine r_ald C hP (aV_1 hfb) h4 dX5_armTenths_40 ?_
    refine lv_topi (fun v3 ev3 => ?_)
    replace hf := rdK_n ev3 hf
    refine lv_imul hx hb dX5_armTenths_41 ?_
    refine lv_aload_n hx hb dX5_armTenths_42 rfl (lv_at hl 2 rfl) ?_
    refine r_get (k := 1) (v := .ref (ea E (b + 1))) C hP (oV hfb) rfl iX5 (by decide) wm_t96 rfl rfl dX5_armTenths_43 ?_
    refine lv_iload_n hx hb dX5_armTenths_46 rfl (lv_at hl 0 rfl) ?_
    have h6 := (rdK_e hf).1
    refine r_ald C hP (aV_1 hfb) h6 dX5_armTenths_47 ?_
    refine lv_topi (fun v5 ev5 => ?_)
    replace hf := rdK_n ev5 hf
    refine lv_aload_n hx hb dX5_armTenths_48 rfl (lv_at hl 2 rfl) ?_
    refine r_get (k := 1) (v := .ref (ea E (b + 1))) C hP (oV hfb) rfl iX5 (by decide) wm_t96 rfl rfl dX5_armTenths_49 ?_
    refine lv_iload_n hx hb dX5_armTenths_52 rfl (lv_at hl 1 rfl) ?_
    have h8 := (rdK_e hf).1
    refine r_ald C hP (aV_1 hfb) h8 dX5_armTenths_53 ?_
    refine lv_topi (fun v7 ev7 => ?_)
    replace hf := rdK_n ev7 hf
    refine lv_isub hx hb dX5_armTenths_54 ?_
    refine lv_iload_n hx hb dX5_armTenths_55 rfl (lv_at hl 3 rfl) ?_
    refine lv_bipush (v := 10) hx hb dX5_armTenths_56 (by decide) ?_
    refine lv_irem hx hb dX5_armTenths_58 (by decide) ?_
    refine lv_imul hx hb dX5_armTenths_59 ?_
    refine lv_iadd hx hb dX5_armTenths_60 ?_
    cases hf
    exact r_iret C hP hS dX5_armTenths_61
  · replace hf := it_t c1 hf
    refine lv_iconst (v := 0) hx hb dX5_armTenths_17 (by decide) ?_
    cases hf
    exact r_iret C hP hS dX5_armTenths_18
def fX5_moment_4B (b : Nat) (σ : St) (rec4 : Int32 → Int32 → Option Int32) (x1 : Int32) (x2 : Int32) : Option Int32 :=
(if (nI (stN (b + 2))) ≤ x2 then
some x1
else
(cq (fX5_heft b σ x2) fun r2 =>
(nm (x1 + (r2 * (fX10_columnArm ((x2 / 6) - (x2 / 6) / 6 * 6)))) fun v4 =>
rec4 v4 (x2 + 1))))
set_option maxHeartbeats 4000000 in
theorem b_fX5_moment_4B {E : Ev} {l : Launch} {p : Program} {e : Env} {s : State} {m : MethodId} {args : Array Value} {below : List Frame} {meth : Method} {c : Code} {b : Nat} (hfb : fV b) (σ : St) (C : CX true E RX5 cX5_moment 3 (some .int) p s m args meth c) {rr : Int32} (rec4 : Int32 → Int32 → Option Int32) (hr4 : ∀  (x1 : Int32) (x2 : Int32), rec4 x1 x2 = some rr → GW true l (rmD 2) E 3 p e s m args below meth c (MQ below (QI true E rr σ s.heap.size) args s 0 0 (aW true E s.heap.size)) σ 4 [(0, .ref (ea E b)), (1, .int x1), (2, .int x2)] []) : ∀  (x1 : Int32) (x2 : Int32), fX5_moment_4B b σ rec4 x1 x2 = some rr → GW true l (rmD 2) E 3 p e s m args below meth c (MQ below (QI true E rr σ s.heap.size) args s 0 0 (aW true E s.heap.size)) σ 4 [(0, .ref (ea E b)), (1, .int x1), (2, .int x2)] [] := by
  intro x1 x2 hf H locs ls hP hS hl
  obtain ⟨hx, hb, hr, hml, hown, hts, hlocks, hK, hX, hj⟩ := id C
  unfold fX5_moment_4B at hf
  refine lv_iload_n hx hb dX5_moment_4 rfl (lv_at hl 2 rfl) ?_
  refine lv_aload_n hx hb dX5_moment_5 rfl (lv_at hl 0 rfl) ?_
  refine r_get (k := 0) (v := .ref (ea E (b + 2))) C hP (oV hfb) rfl iX5 (by decide) wm_t94 rfl rfl dX5_moment_6 ?_
  refine r_get (k := 3) (v := .ref (ea E ((b + 2) + 1))) C hP (oS (fV_S hfb)) rfl iX8 (by decide) wm_t58 rfl rfl dX5_moment_9 ?_
  refine r_alen (v := (nI (stN (b + 2)))) C hP (aS_1 (fV_S hfb)) rfl dX5_moment_12 ?_
  refine lv_icmp_ge (tgt := 41) hx hb dX5_moment_13 (by decide) (fun c1 => ?_) (fun c1 => ?_)
  · replace hf := it_t c1 hf
    refine lv_iload_n hx hb dX5_moment_41 rfl (lv_at hl 1 rfl) ?_
    cases hf
    exact r_iret C hP hS dX5_moment_42
  · replace hf := it_f c1 hf
    refine lv_iload_n hx hb dX5_moment_16 rfl (lv_at hl 1 rfl) ?_
    refine lv_aload_n hx hb dX5_moment_17 rfl (lv_at hl 0 rfl) ?_
    refine lv_iload_n hx hb dX5_moment_18 rfl (lv_at hl 2 rfl) ?_
    obtain ⟨r2, hc3, hf⟩ := cq_e hf
    refine r_cVi (n := 1) (As := [.int x2]) (rest := [.int x1]) C (c_fX5_heft hfb hj σ H.size x2 hc3) (oV hfb) rfl gv_RX5_64 (by decide +kernel) (rmD_le (by decide) (by decide)) rfl rfl (Nat.le_of_ble_eq_true rfl) dX5_moment_19 hP hS hl.1 (fun H locs hP hS => ?_)
    refine lv_iload_n hx hb dX5_moment_22 rfl (lv_at hl 2 rfl) ?_
    refine lv_bipush (v := 6) hx hb dX5_moment_23 (by decide) ?_
    refine lv_idiv hx hb dX5_moment_25 (by decide) ?_
    refine lv_bipush (v := 6) hx hb dX5_moment_26 (by decide) ?_
    refine lv_irem hx hb dX5_moment_28 (by decide) ?_
    refine r_cNi (n := 1) (As := [.int ((x2 / 6) - (x2 / 6) / 6 * 6)]) (rest := [.int r2, .int x1]) (host := "SoupCargo") C (c_fX10_columnArm hj σ H.size ((x2 / 6) - (x2 / 6) / 6 * 6)) (by decide +kernel) wm_t734 wm_t1 wm_t733 (by decide +kernel) (rmD_le (by decide) (by decide)) rfl rfl (Nat.le_of_ble_eq_true rfl) dX5_moment_29 hP hS hl.1 (fun H locs hP hS => ?_)
    refine lv_imul hx hb dX5_moment_32 ?_
    refine lv_iadd hx hb dX5_moment_33 ?_
    refine lv_topi (fun v4 ev4 => ?_)
    replace hf := nm_i ev4 hf
    refine lv_istore_n (lv' := [(1, .int v4), (0, .ref (ea E b)), (2, .int x2)]) hx hb dX5_moment_34 rfl hl (by decide) rfl (fun ls hl => ?_)
    refine lv_iinc (v := (x2 + 1)) (lv' := [(2, .int (x2 + 1)), (1, .int v4), (0, .ref (ea E b))]) hx hb dX5_moment_35 hl (k := 2) rfl rfl (by decide) rfl (fun ls hl => ?_)
    refine lv_goto (tgt := 4) hx hb dX5_moment_38 (by decide) ?_
    exact hr4 v4 (x2 + 1) hf H locs ls hP hS (lv_sub hl [2, 1, 0] rfl)
def fX5_moment_4 (b : Nat) (σ : St) : Nat → Int32 → Int32 → Option Int32
  | 0 => fun _ _ => none
  | n + 1 => fun x1 x2 => fX5_moment_4B b σ (fX5_moment_4 b σ n) x1 x2
theorem b_fX5_moment_4 {E : Ev} {l : Launch} {p : Program} {e : Env} {s : State} {m : MethodId} {args : Array Value} {below : List Frame} {meth : Method} {c : Code} {b : Nat} (hfb : fV b) (σ : St) (C : CX true E RX5 cX5_moment 3 (some .int) p s m args meth c) {rr : Int32} : ∀ (n : Nat) (x1 : Int32) (x2 : Int32), fX5_moment_4 b σ n x1 x2 = some rr → GW true l (rmD 2) E 3 p e s m args below meth c (MQ below (QI true E rr σ s.heap.size) args s 0 0 (aW true E s.heap.size)) σ 4 [(0, .ref (ea E b)), (1, .int x1), (2, .int x2)] [] := by
  intro n
  induction n with
  | zero => intro x1 x2 hf; have hf : (none : Option _) = some _ := hf; cases hf
  | succ n ih => intro x1 x2 hf; exact b_fX5_moment_4B hfb σ C (fX5_moment_4 b σ n) ih x1 x2 hf
def fX5_moment (b : Nat) (σ : St) : Option Int32 :=
fX5_moment_4 b σ FU 0 0
set_option maxHeartbeats 4000000 in
theorem c_fX5_moment {E : Ev} {l : Launch} {b : Nat} (hfb : fV b) (hj : jW true E) (σ : St) (sz : Nat) {rr : Int32} (hf : fX5_moment b σ = some rr) : Met l yX5_moment (Cond.code yX5_moment cX5_moment 3 (some .int) :: gT) (rmD 2) (va_Pc [.ref (ea E b)] (preW true E σ sz)) (QI true E rr σ sz) 0 0 (aW true E sz) := by
  refine r_entry (QI true E rr σ) hj (by decide) [.ref (ea E b)] (Nat.le_of_ble_eq_true rfl) (fun p e s m args below meth c C => ?_)
  intro H locs ls hP hS hl
  have hl : lv_has ls 3 [(0, .ref (ea E b))] := hl
  obtain ⟨hx, hb, hr, hml, hown, hts, hlocks, hK, hX, hj⟩ := id C
  unfold fX5_moment at hf
  refine lv_iconst (v := 0) hx hb dX5_moment_0 (by decide) ?_
  refine lv_istore_n (lv' := [(1, .int 0), (0, .ref (ea E b))]) hx hb dX5_moment_1 rfl hl (by decide) rfl (fun ls hl => ?_)
  refine lv_iconst (v := 0) hx hb dX5_moment_2 (by decide) ?_
  refine lv_istore_n (lv' := [(2, .int 0), (1, .int 0), (0, .ref (ea E b))]) hx hb dX5_moment_3 rfl hl (by decide) rfl (fun ls hl => ?_)
  exact b_fX5_moment_4 hfb σ C FU 0 0 hf H locs ls hP hS (lv_sub hl [2, 1, 0] rfl)
def fX5_weight_6B (b : Nat) (σ : St) (rec6 : Int32 → Int32 → Option Int32) (x1 : Int32) (x2 : Int32) : Option Int32 :=
(if (nI (stN (b + 2))) ≤ x2 then
some x1
else
(cq (fX5_heft b σ x2) fun r2 =>
rec6 (x1 + r2) (x2 + 1)))
set_option maxHeartbeats 4000000 in
theorem b_fX5_weight_6B {E : Ev} {l : Launch} {p : Program} {e : Env} {s : State} {m : MethodId} {args : Array Value} {below : List Frame} {meth : Method} {c : Code} {b : Nat} (hfb : fV b) (σ : St) (C : CX true E RX5 cX5_weight 3 (some .int) p s m args meth c) {rr : Int32} (rec6 : Int32 → Int32 → Option Int32) (hr6 : ∀  (x1 : Int32) (x2 : Int32), rec6 x1 x2 = some rr → GW true l (rmD 2) E 3 p e s m args below meth c (MQ below (QI true E rr σ s.heap.size) args s 0 0 (aW true E s.heap.size)) σ 6 [(0, .ref (ea E b)), (1, .int x1), (2, .int x2)] []) : ∀  (x1 : Int32) (x2 : Int32), fX5_weight_6B b σ rec6 x1 x2 = some rr → GW true l (rmD 2) E 3 p e s m args below meth c (MQ below (QI true E rr σ s.heap.size) args s 0 0 (aW true E s.heap.size)) σ 6 [(0, .ref (ea E b)), (1, .int x1), (2, .int x2)] [] := by
  intro x1 x2 hf H locs ls hP hS hl
  obtain ⟨hx, hb, hr, hml, hown, hts, hlocks, hK, hX, hj⟩ := id C
  unfold fX5_weight_6B at hf
  refine lv_iload_n hx hb dX5_weight_6 rfl (lv_at hl 2 rfl) ?_
  refine lv_aload_n hx hb dX5_weight_7 rfl (lv_at hl 0 rfl) ?_
  refine r_get (k := 0) (v := .ref (ea E (b + 2))) C hP (oV hfb) rfl iX5 (by decide) wm_t94 rfl rfl dX5_weight_8 ?_
  refine r_get (k := 3) (v := .ref (ea E ((b + 2) + 1))) C hP (oS (fV_S hfb)) rfl iX8 (by decide) wm_t58 rfl rfl dX5_weight_11 ?_
  refine r_alen (v := (nI (stN (b + 2)))) C hP (aS_1 (fV_S hfb)) rfl dX5_weight_14 ?_
  refine lv_icmp_ge (tgt := 32) hx hb dX5_weight_15 (by decide) (fun c1 => ?_) (fun c1 => ?_)
  · replace hf := it_t c1 hf
    refine lv_iload_n hx hb dX5_weight_32 rfl (lv_at hl 1 rfl) ?_
    cases hf
    exact r_iret C hP hS dX5_weight_33
  · replace hf := it_f c1 hf
    refine lv_iload_n hx hb dX5_weight_18 rfl (lv_at hl 1 rfl) ?_
    refine lv_aload_n hx hb dX5_weight_19 rfl (lv_at hl 0 rfl) ?_
    refine lv_iload_n hx hb dX5_weight_20 rfl (lv_at hl 2 rfl) ?_
    obtain ⟨r2, hc3, hf⟩ := cq_e hf
    refine r_cVi (n := 1) (As := [.int x2]) (rest := [.int x1]) C (c_fX5_heft hfb hj σ H.size x2 hc3) (oV hfb) rfl gv_RX5_64 (by decide +kernel) (rmD_le (by decide) (by decide)) rfl rfl (Nat.le_of_ble_eq_true rfl) dX5_weight_21 hP hS hl.1 (fun H locs hP hS => ?_)
    refine lv_iadd hx hb dX5_weight_24 ?_
    refine lv_istore_n (lv' := [(1, .int (x1 + r2)), (0, .ref (ea E b)), (2, .int x2)]) hx hb dX5_weight_25 rfl hl (by decide) rfl (fun ls hl => ?_)
    refine lv_iinc (v := (x2 + 1)) (lv' := [(2, .int (x2 + 1)), (1, .int (x1 + r2)), (0, .ref (ea E b))]) hx hb dX5_weight_26 hl (k := 2) rfl rfl (by decide) rfl (fun ls hl => ?_)
    refine lv_goto (tgt := 6) hx hb dX5_weight_29 (by decide) ?_
    exact hr6 (x1 + r2) (x2 + 1) hf H locs ls hP hS (lv_sub hl [2, 1, 0] rfl)
def fX5_weight_6 (b : Nat) (σ : St) : Nat → Int32 → Int32 → Option Int32
  | 0 => fun _ _ => none
  | n + 1 => fun x1 x2 => fX5_weight_6B b σ (fX5_weight_6 b σ n) x1 x2
theorem b_fX5_weight_6 {E : Ev} {l : Launch} {p : Program} {e : Env} {s : State} {m : MethodId} {args : Array Value} {below : List Frame} {meth : Method} {c : Code} {b : Nat} (hfb : fV b) (σ : St) (C : CX true E RX5 cX5_weight 3 (some .int) p s m args meth c) {rr : Int32} : ∀ (n : Nat) (x1 : Int32) (x2 : Int32), fX5_weight_6 b σ n x1 x2 = some rr → GW true l (rmD 2) E 3 p e s m args below meth c (MQ below (QI true E rr σ s.heap.size) args s 0 0 (aW true E s.heap.size)) σ 6 [(0, .ref (ea E b)), (1, .int x1), (2, .int x2)] [] := by
  intro n
  induction n with
  | zero => intro x1 x2 hf; have hf : (none : Option _) = some _ := hf; cases hf
  | succ n ih => intro x1 x2 hf; exact b_fX5_weight_6B hfb σ C (fX5_weight_6 b σ n) ih x1 x2 hf
def fX5_weight (b : Nat) (σ : St) : Option Int32 :=
fX5_weight_6 b σ FU 2000 0
set_option maxHeartbeats 4000000 in
theorem c_fX5_weight {E : Ev} {l : Launch} {b : Nat} (hfb : fV b) (hj : jW true E) (σ : St) (sz : Nat) {rr : Int32} (hf : fX5_weight b σ = some rr) : Met l yX5_weight (Cond.code yX5_weight cX5_weight 3 (some .int) :: gT) (rmD 2) (va_Pc [.ref (ea E b)] (preW true E σ sz)) (QI true E rr σ sz) 0 0 (aW true E sz) := by
  refine r_entry (QI true E rr σ) hj (by decide) [.ref (ea E b)] (Nat.le_of_ble_eq_true rfl) (fun p e s m args below meth c C => ?_)
  intro H locs ls hP hS hl
  have hl : lv_has ls 3 [(0, .ref (ea E b))] := hl
  obtain ⟨hx, hb, hr, hml, hown, hts, hlocks, hK, hX, hj⟩ := id C
  unfold fX5_weight at hf
  refine lv_sipush (v := 2000) hx hb dX5_weight_0 (by decide) ?_
  refine lv_istore_n (lv' := [(1, .int 2000), (0, .ref (ea E b))]) hx hb dX5_weight_3 rfl hl (by decide) rfl (fun ls hl => ?_)
  refine lv_iconst (v := 0) hx hb dX5_weight_4 (by decide) ?_
  refine lv_istore_n (lv' := [(2, .int 0), (1, .int 2000), (0, .ref (ea E b))]) hx hb dX5_weight_5 rfl hl (by decide) rfl (fun ls hl => ?_)
  exact b_fX5_weight_6 hfb σ C FU 2000 0 hf H locs ls hP hS (lv_sub hl [2, 1, 0] rfl)
def fX5_leanNow_53 (b : Nat) (σ : St) (x1 : Int32) (x6 : Int32) : Option Int32 :=
(if 0 ≤ x1 then
some x6
else
some (-x6))
set_option maxHeartbeats 4000000 in
theorem b_fX5_leanNow_53 {E : Ev} {l : Launch} {p : Program} {e : Env} {s : State} {m : MethodId} {args : Array Value} {below : List Frame} {meth : Method} {c : Code} {b : Nat} (hfb : fV b) (σ : St) (C : CX true E RX5 cX5_leanNow 7 (some .int) p s m args meth c) {rr : Int32} : ∀  (x1 : Int32) (x6 : Int32), fX5_leanNow_53 b σ x1 x6 = some rr → GW true l (rmD 3) E 7 p e s m args below meth c (MQ below (QI true E rr σ s.heap.size) args s 0 0 (aW true E s.heap.size)) σ 53 [(1, .int x1), (6, .int x6)] [] := by
  intro x1 x6 hf H locs ls hP hS hl
  obtain ⟨hx, hb, hr, hml, hown, hts, hlocks, hK, hX, hj⟩ := id C
  unfold fX5_leanNow_53 at hf
  refine lv_iload_n hx hb dX5_leanNow_53 rfl (lv_at hl 0 rfl) ?_
  refine lv_if_ge (tgt := 63) hx hb dX5_leanNow_54 (by decide) (fun c1 => ?_) (fun c1 => ?_)
  · replace hf := it_t c1 hf
    refine lv_iload hx hb dX5_leanNow_63 (lv_at hl 1 rfl) ?_
    cases hf
    exact r_iret C hP hS dX5_leanNow_65
  · replace hf := it_f c1 hf
    refine lv_iload hx hb dX5_leanNow_57 (lv_at hl 1 rfl) ?_
    refine lv_ineg hx hb dX5_leanNow_59 ?_
    refine lv_goto (tgt := 65) hx hb dX5_leanNow_60 (by decide) ?_
    cases hf
    exact r_iret C hP hS dX5_leanNow_65
def fX5_leanNow_25B (b : Nat) (σ : St) (rec25 : Int32 → Int64 → Int64 → Int32 → Option Int32) (x1 : Int32) (x2 : Int64) (x4 : Int64) (x6 : Int32) : Option Int32 :=
(if 60 < x6 then
fX5_leanNow_53 b σ x1 x6
else
(cq (fX5_armTenths b σ x6) fun r2 =>
(if 0 ≤ (lg_cmp (((r2 : Int32).toInt64) * x2) x4) then
fX5_leanNow_53 b σ x1 x6
else
rec25 x1 x2 x4 (x6 + 1))))
set_option maxHeartbeats 4000000 in
theorem b_fX5_leanNow_25B {E : Ev} {l : Launch} {p : Program} {e : Env} {s : State} {m : MethodId} {args : Array Value} {below : List Frame} {meth : Method} {c : Code} {b : Nat} (hfb : fV b) (σ : St) (C : CX true E RX5 cX5_leanNow 7 (some .int) p s m args meth c) {rr : Int32} (rec25 : Int32 → Int64 → Int64 → Int32 → Option Int32) (hr25 : ∀  (x1 : Int32) (x2 : Int64) (x4 : Int64) (x6 : Int32), rec25 x1 x2 x4 x6 = some rr → GW true l (rmD 3) E 7 p e s m args below meth c (MQ below (QI true E rr σ s.heap.size) args s 0 0 (aW true E s.heap.size)) σ 25 [(0, .ref (ea E b)), (1, .int x1), (2, .long x2), (4, .long x4), (6, .int x6)] []) : ∀  (x1 : Int32) (x2 : Int64) (x4 : Int64) (x6 : Int32), fX5_leanNow_25B b σ rec25 x1 x2 x4 x6 = some rr → GW true l (rmD 3) E 7 p e s m args below meth c (MQ below (QI true E rr σ s.heap.size) args s 0 0 (aW true E s.heap.size)) σ 25 [(0, .ref (ea E b)), (1, .int x1), (2, .long x2), (4, .long x4), (6, .int x6)] [] := by
  intro x1 x2 x4 x6 hf H locs ls hP hS hl
  obtain ⟨hx, hb, hr, hml, hown, hts, hlocks, hK, hX, hj⟩ := id C
  unfold fX5_leanNow_25B at hf
  refine lv_iload hx hb dX5_leanNow_25 (lv_at hl 4 rfl) ?_
  refine lv_bipush (v := 60) hx hb dX5_leanNow_27 (by decide) ?_
  refine lv_icmp_gt (tgt := 53) hx hb dX5_leanNow_29 (by decide) (fun c1 => ?_) (fun c1 => ?_)
  · replace hf := it_t c1 hf
    exact b_fX5_leanNow_53 hfb σ C x1 x6 hf H locs ls hP hS (lv_sub hl [1, 4] rfl)
  · replace hf := it_f c1 hf
    refine lv_aload_n hx hb dX5_leanNow_32 rfl (lv_at hl 0 rfl) ?_
    refine lv_iload hx hb dX5_leanNow_33 (lv_at hl 4 rfl) ?_
    obtain ⟨r2, hc3, hf⟩ := cq_e hf
    refine r_cVi (n := 1) (As := [.int x6]) (rest := []) C (c_fX5_armTenths hfb hj σ H.size x6 hc3) (oV hfb) rfl gv_RX5_106 (by decide +kernel) (rmD_le (by decide) (by decide)) rfl rfl (Nat.le_of_ble_eq_true rfl) dX5_leanNow_35 hP hS hl.1 (fun H locs hP hS => ?_)
    refine lv_i2l (v := (r2 : Int32).toInt64) hx hb dX5_leanNow_38 rfl ?_
    refine lv_lload_n hx hb dX5_leanNow_39 rfl (lv_at hl 2 rfl) ?_
    refine lv_lmul hx hb dX5_leanNow_40 ?_
    refine lv_lload hx hb dX5_leanNow_41 (lv_at hl 3 rfl) ?_
    refine W.lcmp hx hb dX5_leanNow_43 ?_
    refine lv_if_ge (tgt := 53) hx hb dX5_leanNow_44 (by decide) (fun c4 => ?_) (fun c4 => ?_)
    · replace hf := it_t c4 hf
      exact b_fX5_leanNow_53 hfb σ C x1 x6 hf H locs ls hP hS (lv_sub hl [1, 4] rfl)
    · replace hf := it_f c4 hf
      refine lv_iinc (v := (x6 + 1)) (lv' := [(6, .int (x6 + 1)), (0, .ref (ea E b)), (1, .int x1), (2, .long x2), (4, .long x4)]) hx hb dX5_leanNow_47 hl (k := 4) rfl rfl (by decide) rfl (fun ls hl => ?_)
      refine lv_goto (tgt := 25) hx hb dX5_leanNow_50 (by decide) ?_
      exact hr25 x1 x2 x4 (x6 + 1) hf H locs ls hP hS (lv_sub hl [1, 2, 3, 4, 0] rfl)
def fX5_leanNow_25 (b : Nat) (σ : St) : Nat → Int32 → Int64 → Int64 → Int32 → Option Int32
  | 0 => fun _ _ _ _ => none
  | n + 1 => fun x1 x2 x4 x6 => fX5_leanNow_25B b σ (fX5_leanNow_25 b σ n) x1 x2 x4 x6
theorem b_fX5_leanNow_25 {E : Ev} {l : Launch} {p : Program} {e : Env} {s : State} {m : MethodId} {args : Array Value} {below : List Frame} {meth : Method} {c : Code} {b : Nat} (hfb : fV b) (σ : St) (C : CX true E RX5 cX5_leanNow 7 (some .int) p s m args meth c) {rr : Int32} : ∀ (n : Nat) (x1 : Int32) (x2 : Int64) (x4 : Int64) (x6 : Int32), fX5_leanNow_25 b σ n x1 x2 x4 x6 = some rr → GW true l (rmD 3) E 7 p e s m args below meth c (MQ below (QI true E rr σ s.heap.size) args s 0 0 (aW true E s.heap.size)) σ 25 [(0, .ref (ea E b)), (1, .int x1), (2, .long x2), (4, .long x4), (6, .int x6)] [] := by
  intro n
  induction n with
  | zero => intro x1 x2 x4 x6 hf; have hf : (none : Option _) = some _ := hf; cases hf
  | succ n ih => intro x1 x2 x4 x6 hf; exact b_fX5_leanNow_25B hfb σ C (fX5_leanNow_25 b σ n) ih x1 x2 x4 x6 hf
def fX5_leanNow (b : Nat) (σ : St) : Option Int32 :=
(cq (fX5_moment b σ) fun r1 =>
(cq (fX5_weight b σ) fun r3 =>
(nml (200 * (((if 0 ≤ r1 then r1 else 0 - r1) : Int32).toInt64)) fun v5 =>
fX5_leanNow_25 b σ FU r1 ((r3 : Int32).toInt64) v5 0)))
set_option maxHeartbeats 4000000 in
theorem c_fX5_leanNow {E : Ev} {l : Launch} {b : Nat} (hfb : fV b) (hj : jW true E) (σ : St) (sz : Nat) {rr : Int32} (hf : fX5_leanNow b σ = some rr) : Met l yX5_leanNow (Cond.code yX5_leanNow cX5_leanNow 7 (some .int) :: gT) (rmD 3) (va_Pc [.ref (ea E b)] (preW true E σ sz)) (QI true E rr σ sz) 0 0 (aW true E sz) := by
  refine r_entry (QI true E rr σ) hj (by decide) [.ref (ea E b)] (Nat.le_of_ble_eq_true rfl) (fun p e s m args below meth c C => ?_)
  intro H locs ls hP hS hl
  have hl : lv_has ls 7 [(0, .ref (ea E b))] := hl
  obtain ⟨hx, hb, hr, hml, hown, hts, hlocks, hK, hX, hj⟩ := id C
  unfold fX5_leanNow at hf
  refine lv_aload_n hx hb dX5_leanNow_0 rfl (lv_at hl 0 rfl) ?_
  obtain ⟨r1, hc2, hf⟩ := cq_e hf
  refine r_cVi (n := 0) (As := []) (rest := []) C (c_fX5_moment hfb hj σ H.size hc2) (oV hfb) rfl gv_RX5_98 (by decide +kernel) (rmD_le (by decide) (by decide)) rfl rfl (Nat.le_of_ble_eq_true rfl) dX5_leanNow_1 hP hS hl.1 (fun H locs hP hS => ?_)
  refine lv_istore_n (lv' := [(1, .int r1), (0, .ref (ea E b))]) hx hb dX5_leanNow_4 rfl hl (by decide) rfl (fun ls hl => ?_)
  refine lv_aload_n hx hb dX5_leanNow_5 rfl (lv_at hl 1 rfl) ?_
  obtain ⟨r3, hc4, hf⟩ := cq_e hf
  refine r_cVi (n := 0) (As := []) (rest := []) C (c_fX5_weight hfb hj σ H.size hc4) (oV hfb) rfl gv_RX5_101 (by decide +kernel) (rmD_le (by decide) (by decide)) rfl rfl (Nat.le_of_ble_eq_true rfl) dX5_leanNow_6 hP hS hl.1 (fun H locs hP hS => ?_)
  refine lv_i2l (v := (r3 : Int32).toInt64) hx hb dX5_leanNow_9 rfl ?_
  refine lv_lstore_n (lv' := [(2, .long ((r3 : Int32).toInt64)), (1, .int r1), (0, .ref (ea E b))]) hx hb dX5_leanNow_10 rfl hl (by decide) rfl (fun ls hl => ?_)
  refine lv_ldc2 (v := 200) hx hb hown (hts _ wm_t739) dX5_leanNow_11 ?_
  refine lv_iload_n hx hb dX5_leanNow_14 rfl (lv_at hl 1 rfl) ?_
  refine va_mabs hx hb (hml.trans hl.1.symm) hown (hts _ wm_t740) (hts _ wm_t741) (hts _ wm_t4) (hts _ wm_t742) (by decide) (Nat.le_of_ble_eq_true rfl) (Nat.zero_le _) (Nat.zero_le _) dX5_leanNow_15 ?_
  refine lv_i2l (v := ((if 0 ≤ r1 then r1 else 0 - r1) : Int32).toInt64) hx hb dX5_leanNow_18 rfl ?_
  refine lv_lmul hx hb dX5_leanNow_19 ?_
  refine lv_topl (fun v5 ev5 => ?_)
  replace hf := nml_i ev5 hf
  refine lv_lstore (lv' := [(4, .long v5), (2, .long ((r3 : Int32).toInt64)), (1, .int r1), (0, .ref (ea E b))]) hx hb dX5_leanNow_20 hl (by decide) rfl (fun ls hl => ?_)
  refine lv_iconst (v := 0) hx hb dX5_leanNow_22 (by decide) ?_
  refine lv_istore (lv' := [(6, .int 0), (4, .long v5), (2, .long ((r3 : Int32).toInt64)), (1, .int r1), (0, .ref (ea E b))]) hx hb dX5_leanNow_23 hl (by decide) rfl (fun ls hl => ?_)
  exact b_fX5_leanNow_25 hfb σ C FU r1 ((r3 : Int32).toInt64) v5 0 hf H locs ls hP hS (lv_sub hl [4, 3, 2, 1, 0] rfl)
def fX6_add_91 (σ : St) (y0 : Int32) (y1 : Int32) (y2 : Int32) : Option (Int32 × St) :=
(wrK 288 σ 43 y2 (y1 + y0) fun σ1 =>
(nmS (st_put σ1 41 0 ((σ1 41 0) + 1)) fun σ3 =>
some ((σ3 41 0), σ3)))
set_option maxHeartbeats 4000000 in
theorem b_fX6_add_91 {E : Ev} {l : Launch} {p : Program} {e : Env} {s : State} {m : MethodId} {args : Array Value} {below : List Frame} {meth : Method} {c : Code} (C : CX true E RX6 cX6_add 7 (some .int) p s m args meth c) {rr : Int32} {sr : St} : ∀ (σ : St) (y0 : Int32) (y1 : Int32) (y2 : Int32), fX6_add_91 σ y0 y1 y2 = some (rr, sr) → GW true l (rmD 2) E 7 p e s m args below meth c (MQ below (QI true E rr sr s.heap.size) args s 0 0 (aW true E s.heap.size)) σ 91 [(0, .ref (ea E 41))] [.int y0, .int y1, .int y2, .ref (ea E 43)] := by
  intro σ y0 y1 y2 hf H locs ls hP hS hl
  obtain ⟨hx, hb, hr, hml, hown, hts, hlocks, hK, hX, hj⟩ := id C
  unfold fX6_add_91 at hf
  refine lv_iadd hx hb dX6_add_91 ?_
  obtain ⟨h2, σ1, eσ1, hf⟩ := wrK_e hf
  refine r_ast C hP hS aC_43 h2 dX6_add_92 (fun H locs hP hS => ?_)
  rw [← eσ1] at hP
  refine lv_aload_n hx hb dX6_add_93 rfl (lv_at hl 0 rfl) ?_
  refine lv_dup hx hb dX6_add_94 rfl ?_
  refine r_get (k := 0) (v := .int (σ1 41 0)) C hP oC_41 rfl iX6 (by decide) wm_t284 rfl rfl dX6_add_95 ?_
  refine lv_iconst (v := 1) hx hb dX6_add_98 (by decide) ?_
  refine lv_iadd hx hb dX6_add_99 ?_
  refine r_put (k := 0) (x := ((σ1 41 0) + 1)) C hP hS tyX6 tyX6_ok nmX6 oC_41 rfl iX6 (by decide) wm_t284 rfl rfl sC_41_0 rfl rfl (Nat.le_of_ble_eq_true rfl) dX6_add_100 (fun H locs hP hS => ?_)
  obtain ⟨σ3, eσ3, hf⟩ := nmS_e hf
  rw [← eσ3] at hP
  refine lv_aload_n hx hb dX6_add_103 rfl (lv_at hl 0 rfl) ?_
  refine r_get (k := 0) (v := .int (σ3 41 0)) C hP oC_41 rfl iX6 (by decide) wm_t284 rfl rfl dX6_add_104 ?_
  cases hf
  exact r_iret C hP hS dX6_add_107
def fX6_add_31 (σ : St) (x1 : Int32) (x2 : Int32) (x3 : Int32) (x4 : Int32) (y0 : Int32) : Option (Int32 × St) :=
(if y0 = 0 then
some ((-1), σ)
else
(if (σ 41 0) < 200 then
(rdK 288 (σ 42) ((((x1 * 12) + x2) * 3) + x3) fun v3 =>
(wrK 288 σ 42 ((((x1 * 12) + x2) * 3) + x3) (v3 + 1) fun σ5 =>
(rdK 288 (σ5 43) ((((x1 * 12) + x2) * 3) + x3) fun v7 =>
(if x4 = 0 then
fX6_add_91 σ5 0 v7 ((((x1 * 12) + x2) * 3) + x3)
else
fX6_add_91 σ5 1 v7 ((((x1 * 12) + x2) * 3) + x3)))))
else
some ((-1), σ)))
set_option maxHeartbeats 4000000 in
theorem b_fX6_add_31 {E : Ev} {l : Launch} {p : Program} {e : Env} {s : State} {m : MethodId} {args : Array Value} {below : List Frame} {meth : Method} {c : Code} (C : CX true E RX6 cX6_add 7 (some .int) p s m args meth c) {rr : Int32} {sr : St} : ∀ (σ : St) (x1 : Int32) (x2 : Int32) (x3 : Int32) (x4 : Int32) (y0 : Int32), fX6_add_31 σ x1 x2 x3 x4 y0 = some (rr, sr) → GW true l (rmD 2) E 7 p e s m args below meth c (MQ below (QI true E rr sr s.heap.size) args s 0 0 (aW true E s.heap.size)) σ 31 [(0, .ref (ea E 41)), (1, .int x1), (2, .int x2), (3, .int x3), (4, .int x4)] [.int y0] := by
  intro σ x1 x2 x3 x4 y0 hf H locs ls hP hS hl
  obtain ⟨hx, hb, hr, hml, hown, hts, hlocks, hK, hX, hj⟩ := id C
  unfold fX6_add_31 at hf
  refine lv_istore (lv' := [(5, .int y0), (0, .ref (ea E 41)), (1, .int x1), (2, .int x2), (3, .int x3), (4, .int x4)]) hx hb dX6_add_31 hl (by decide) rfl (fun ls hl => ?_)
  refine lv_iload hx hb dX6_add_33 (lv_at hl 0 rfl) ?_
  refine lv_if_eq (tgt := 48) hx hb dX6_add_35 (by decide) (fun c1 => ?_) (fun c1 => ?_)
  · replace hf := it_t c1 hf
    refine lv_iconst (v := (-1)) hx hb dX6_add_48 (by decide) ?_
    cases hf
    exact r_iret C hP hS dX6_add_49
  · replace hf := it_f c1 hf
    refine lv_aload_n hx hb dX6_add_38 rfl (lv_at hl 1 rfl) ?_
    refine r_get (k := 0) (v := .int (σ 41 0)) C hP oC_41 rfl iX6 (by decide) wm_t284 rfl rfl dX6_add_39 ?_
    refine lv_sipush (v := 200) hx hb dX6_add_42 (by decide) ?_
    refine lv_icmp_lt (tgt := 50) hx hb dX6_add_45 (by decide) (fun c2 => ?_) (fun c2 => ?_)
    · replace hf := it_t c2 hf
      refine lv_iload_n hx hb dX6_add_50 rfl (lv_at hl 2 rfl) ?_
      refine lv_bipush (v := 12) hx hb dX6_add_51 (by decide) ?_
      refine lv_imul hx hb dX6_add_53 ?_
      refine lv_iload_n hx hb dX6_add_54 rfl (lv_at hl 3 rfl) ?_
      refine lv_iadd hx hb dX6_add_55 ?_
      refine lv_iconst (v := 3) hx hb dX6_add_56 (by decide) ?_
      refine lv_imul hx hb dX6_add_57 ?_
      refine lv_iload_n hx hb dX6_add_58 rfl (lv_at hl 4 rfl) ?_
      refine lv_iadd hx hb dX6_add_59 ?_
      refine lv_istore (lv' := [(6, .int ((((x1 * 12) + x2) * 3) + x3)), (5, .int y0), (0, .ref (ea E 41)), (1, .int x1), (2, .int x2), (3, .int x3), (4, .int x4)]) hx hb dX6_add_60 hl (by decide) rfl (fun ls hl => ?_)
      refine lv_aload_n hx hb dX6_add_62 rfl (lv_at hl 2 rfl) ?_
      refine r_get (k := 1) (v := .ref (ea E 42)) C hP oC_41 rfl iX6 (by decide) wm_t285 rfl rfl dX6_add_63 ?_
      refine lv_iload hx hb dX6_add_66 (lv_at hl 0 rfl) ?_
      refine lv_dup2_11 hx hb dX6_add_68 rfl rfl ?_
      have h4 := (rdK_e hf).1
      refine r_ald C hP aC_42 h4 dX6_add_69 ?_
      refine lv_topi (fun v3 ev3 => ?_)
      replace hf := rdK_n ev3 hf
      refine lv_iconst (v := 1) hx hb dX6_add_70 (by decide) ?_
      refine lv_iadd hx hb dX6_add_71 ?_
      obtain ⟨h6, σ5, eσ5, hf⟩ := wrK_e hf
      refine r_ast C hP hS aC_42 h6 dX6_add_72 (fun H locs hP hS => ?_)
      rw [← eσ5] at hP
      refine lv_aload_n hx hb dX6_add_73 rfl (lv_at hl 2 rfl) ?_
      refine r_get (k := 2) (v := .ref (ea E 43)) C hP oC_41 rfl iX6 (by decide) wm_t286 rfl rfl dX6_add_74 ?_
      refine lv_iload hx hb dX6_add_77 (lv_at hl 0 rfl) ?_
      refine lv_dup2_11 hx hb dX6_add_79 rfl rfl ?_
      have h8 := (rdK_e hf).1
      refine r_ald C hP aC_43 h8 dX6_add_80 ?_
      refine lv_topi (fun v7 ev7 => ?_)
      replace hf := rdK_n ev7 hf
      refine lv_iload hx hb dX6_add_81 (lv_at hl 6 rfl) ?_
      refine lv_if_eq (tgt := 90) hx hb dX6_add_83 (by decide) (fun c9 => ?_) (fun c9 => ?_)
      · replace hf := it_t c9 hf
        refine lv_iconst (v := 0) hx hb dX6_add_90 (by decide) ?_
        exact b_fX6_add_91 C σ5 0 v7 ((((x1 * 12) + x2) * 3) + x3) hf H locs ls hP hS (lv_sub hl [2] rfl)
      · replace hf := it_f c9 hf
        refine lv_iconst (v := 1) hx hb dX6_add_86 (by decide) ?_
        refine lv_goto (tgt := 91) hx hb dX6_add_87 (by decide) ?_
        exact b_fX6_add_91 C σ5 1 v7 ((((x1 * 12) + x2) * 3) + x3) hf H locs ls hP hS (lv_sub hl [2] rfl)
    · replace hf := it_f c2 hf
      refine lv_iconst (v := (-1)) hx hb dX6_add_48 (by decide) ?_
      cases hf
      exact r_iret C hP hS dX6_add_49
def fX6_add_30 (σ : St) (x1 : Int32) (x2 : Int32) (x3 : Int32) (x4 : Int32) : Option (Int32 × St) :=
fX6_add_31 σ x1 x2 x3 x4 0
set_option maxHeartbeats 4000000 in
theorem b_fX6_add_30 {E : Ev} {l : Launch} {p : Program} {e : Env} {s : State} {m : MethodId} {args : Array Value} {below : List Frame} {meth : Method} {c : Code} (C : CX true E RX6 cX6_add 7 (some .int) p s m args meth c) {rr : Int32} {sr : St} : ∀ (σ : St) (x1 : Int32) (x2 : Int32) (x3 : Int32) (x4 : Int32), fX6_add_30 σ x1 x2 x3 x4 = some (rr, sr) → GW true l (rmD 2) E 7 p e s m args below meth c (MQ below (QI true E rr sr s.heap.size) args s 0 0 (aW true E s.heap.size)) σ 30 [(0, .ref (ea E 41)), (1, .int x1), (2, .int x2), (3, .int x3), (4, .int x4)] [] := by
  intro σ x1 x2 x3 x4 hf H locs ls hP hS hl
  obtain ⟨hx, hb, hr, hml, hown, hts, hlocks, hK, hX, hj⟩ := id C
  unfold fX6_add_30 at hf
  refine lv_iconst (v := 0) hx hb dX6_add_30 (by decide) ?_
  exact b_fX6_add_31 C σ x1 x2 x3 x4 0 hf H locs ls hP hS (lv_sub hl [0, 1, 2, 3, 4] rfl)
def fX6_add (σ : St) (a0 : Int32) (a1 : Int32) (a2 : Int32) (a3 : Int32) : Option (Int32 × St) :=
(if (fX10_within a0 8) = 0 then
fX6_add_30 σ a0 a1 a2 a3
else
(if (fX10_within a1 12) = 0 then
fX6_add_30 σ a0 a1 a2 a3
else
(if (fX10_within a2 3) = 0 then
fX6_add_30 σ a0 a1 a2 a3
else
fX6_add_31 σ a0 a1 a2 a3 1)))
set_option maxHeartbeats 4000000 in
theorem c_fX6_add {E : Ev} {l : Launch} (hj : jW true E) (σ : St) (sz : Nat) (a0 : Int32) (a1 : Int32) (a2 : Int32) (a3 : Int32) {rr : Int32} {sr : St} (hf : fX6_add σ a0 a1 a2 a3 = some (rr, sr)) : Met l yX6_add (Cond.code yX6_add cX6_add 7 (some .int) :: gT) (rmD 2) (va_Pc [.ref (ea E 41), .int a0, .int a1, .int a2, .int a3] (preW true E σ sz)) (QI true E rr sr sz) 0 0 (aW true E sz) := by
  refine r_entry (QI true E rr sr) hj (by decide) [.ref (ea E 41), .int a0, .int a1, .int a2, .int a3] (Nat.le_of_ble_eq_true rfl) (fun p e s m args below meth c C => ?_)
  intro H locs ls hP hS hl
  have hl : lv_has ls 7 [(0, .ref (ea E 41)), (1, .int a0), (2, .int a1), (3, .int a2), (4, .int a3)] := hl
  obtain ⟨hx, hb, hr, hml, hown, hts, hlocks, hK, hX, hj⟩ := id C
  unfold fX6_add at hf
  refine lv_iload_n hx hb dX6_add_0 rfl (lv_at hl 1 rfl) ?_
  refine lv_bipush (v := 8) hx hb dX6_add_1 (by decide) ?_
  refine r_cNi (n := 2) (As := [.int a0, .int 8]) (rest := []) (host := "SoupCargo") C (c_fX10_within hj σ H.size a0 8) (by decide +kernel) wm_t343 wm_t1 wm_t342 (by decide +kernel) (rmD_le (by decide) (by decide)) rfl rfl (Nat.le_of_ble_eq_true rfl) dX6_add_3 hP hS hl.1 (fun H locs hP hS => ?_)
  refine lv_if_eq (tgt := 30) hx hb dX6_add_6 (by decide) (fun c1 => ?_) (fun c1 => ?_)
  · replace hf := it_t c1 hf
    exact b_fX6_add_30 C σ a0 a1 a2 a3 hf H locs ls hP hS (lv_sub hl [0, 1, 2, 3, 4] rfl)
  · replace hf := it_f c1 hf
    refine lv_iload_n hx hb dX6_add_9 rfl (lv_at hl 2 rfl) ?_
    refine lv_bipush (v := 12) hx hb dX6_add_10 (by decide) ?_
    refine r_cNi (n := 2) (As := [.int a1, .int 12]) (rest := []) (host := "SoupCargo") C (c_fX10_within hj σ H.size a1 12) (by decide +kernel) wm_t343 wm_t1 wm_t342 (by decide +kernel) (rmD_le (by decide) (by decide)) rfl rfl (Nat.le_of_ble_eq_true rfl) dX6_add_12 hP hS hl.1 (fun H locs hP hS => ?_)
    refine lv_if_eq (tgt := 30) hx hb dX6_add_15 (by decide) (fun c2 => ?_) (fun c2 => ?_)
    · replace hf := it_t c2 hf
      exact b_fX6_add_30 C σ a0 a1 a2 a3 hf H locs ls hP hS (lv_sub hl [0, 1, 2, 3, 4] rfl)
    · replace hf := it_f c2 hf
      refine lv_iload_n hx hb dX6_add_18 rfl (lv_at hl 3 rfl) ?_
      refine lv_iconst (v := 3) hx hb dX6_add_19 (by decide) ?_
      refine r_cNi (n := 2) (As := [.int a2, .int 3]) (rest := []) (host := "SoupCargo") C (c_fX10_within hj σ H.size a2 3) (by decide +kernel) wm_t343 wm_t1 wm_t342 (by decide +kernel) (rmD_le (by decide) (by decide)) rfl rfl (Nat.le_of_ble_eq_true rfl) dX6_add_20 hP hS hl.1 (fun H locs hP hS => ?_)
      refine lv_if_eq (tgt := 30) hx hb dX6_add_23 (by decide) (fun c3 => ?_) (fun c3 => ?_)
      · replace hf := it_t c3 hf
        exact b_fX6_add_30 C σ a0 a1 a2 a3 hf H locs ls hP hS (lv_sub hl [0, 1, 2, 3, 4] rfl)
      · replace hf := it_f c3 hf
        refine lv_iconst (v := 1) hx hb dX6_add_26 (by decide) ?_
        refine lv_goto (tgt := 31) hx hb dX6_add_27 (by decide) ?_
        exact b_fX6_add_31 C σ a0 a1 a2 a3 1 hf H locs ls hP hS (lv_sub hl [0, 1, 2, 3, 4] rfl)
def fX6_countOf_92 (σ : St) (rec40 : Int32 → Int32 → Int32 → Int32 → Int32 → Int32 → Option Int32) (x1 : Int32) (x2 : Int32) (x3 : Int32) (x4 : Int32) (x5 : Int32) (x6 : Int32) (y0 : Int32) : Option Int32 :=
(if y0 = 0 then
rec40 x1 x2 x3 x4 x5 (x6 + 1)
else
(if x4 = 0 then
(rdK 288 (σ 42) x6 fun v3 =>
rec40 x1 x2 x3 x4 (x5 + v3) (x6 + 1))
else
(rdK 288 (σ 43) x6 fun v5 =>
rec40 x1 x2 x3 x4 (x5 + v5) (x6 + 1))))
set_option maxHeartbeats 4000000 in
theorem b_fX6_countOf_92 {E : Ev} {l : Launch} {p : Program} {e : Env} {s : State} {m : MethodId} {args : Array Value} {below : List Frame} {meth : Method} {c : Code} (σ : St) (C : CX true E RX6 cX6_countOf 8 (some .int) p s m args meth c) {rr : Int32} (rec40 : Int32 → Int32 → Int32 → Int32 → Int32 → Int32 → Option Int32) (hr40 : ∀  (x1 : Int32) (x2 : Int32) (x3 : Int32) (x4 : Int32) (x5 : Int32) (x6 : Int32), rec40 x1 x2 x3 x4 x5 x6 = some rr → GW true l (rmD 2) E 8 p e s m args below meth c (MQ below (QI true E rr σ s.heap.size) args s 0 0 (aW true E s.heap.size)) σ 40 [(0, .ref (ea E 41)), (1, .int x1), (2, .int x2), (3, .int x3), (4, .int x4), (5, .int x5), (6, .int x6)] []) : ∀  (x1 : Int32) (x2 : Int32) (x3 : Int32) (x4 : Int32) (x5 : Int32) (x6 : Int32) (y0 : Int32), fX6_countOf_92 σ rec40 x1 x2 x3 x4 x5 x6 y0 = some rr → GW true l (rmD 2) E 8 p e s m args below meth c (MQ below (QI true E rr σ s.heap.size) args s 0 0 (aW true E s.heap.size)) σ 92 [(0, .ref (ea E 41)), (1, .int x1), (2, .int x2), (3, .int x3), (4, .int x4), (5, .int x5), (6, .int x6)] [.int y0] := by
  intro x1 x2 x3 x4 x5 x6 y0 hf H locs ls hP hS hl
  obtain ⟨hx, hb, hr, hml, hown, hts, hlocks, hK, hX, hj⟩ := id C
  unfold fX6_countOf_92 at hf
  refine lv_istore (lv' := [(7, .int y0), (0, .ref (ea E 41)), (1, .int x1), (2, .int x2), (3, .int x3), (4, .int x4), (5, .int x5), (6, .int x6)]) hx hb dX6_countOf_92 hl (by decide) rfl (fun ls hl => ?_)
  refine lv_iload hx hb dX6_countOf_94 (lv_at hl 0 rfl) ?_
  refine lv_if_eq (tgt := 126) hx hb dX6_countOf_96 (by decide) (fun c1 => ?_) (fun c1 => ?_)
  · replace hf := it_t c1 hf
    refine lv_iinc (v := (x6 + 1)) (lv' := [(6, .int (x6 + 1)), (7, .int y0), (0, .ref (ea E 41)), (1, .int x1), (2, .int x2), (3, .int x3), (4, .int x4), (5, .int x5)]) hx hb dX6_countOf_126 hl (k := 7) rfl rfl (by decide) rfl (fun ls hl => ?_)
    refine lv_goto (tgt := 40) hx hb dX6_countOf_129 (by decide) ?_
    exact hr40 x1 x2 x3 x4 x5 (x6 + 1) hf H locs ls hP hS (lv_sub hl [2, 3, 4, 5, 6, 7, 0] rfl)
  · replace hf := it_f c1 hf
    refine lv_iload hx hb dX6_countOf_99 (lv_at hl 6 rfl) ?_
    refine lv_iload hx hb dX6_countOf_101 (lv_at hl 5 rfl) ?_
    refine lv_if_eq (tgt := 116) hx hb dX6_countOf_103 (by decide) (fun c2 => ?_) (fun c2 => ?_)
    · replace hf := it_t c2 hf
      refine lv_aload_n hx hb dX6_countOf_116 rfl (lv_at hl 1 rfl) ?_
      refine r_get (k := 1) (v := .ref (ea E 42)) C hP oC_41 rfl iX6 (by decide) wm_t285 rfl rfl dX6_countOf_117 ?_
      refine lv_iload hx hb dX6_countOf_120 (lv_at hl 7 rfl) ?_
      have h4 := (rdK_e hf).1
      refine r_ald C hP aC_42 h4 dX6_countOf_122 ?_
      refine lv_topi (fun v3 ev3 => ?_)
      replace hf := rdK_n ev3 hf
      refine lv_iadd hx hb dX6_countOf_123 ?_
      refine lv_istore (lv' := [(5, .int (x5 + v3)), (7, .int y0), (0, .ref (ea E 41)), (1, .int x1), (2, .int x2), (3, .int x3), (4, .int x4), (6, .int x6)]) hx hb dX6_countOf_124 hl (by decide) rfl (fun ls hl => ?_)
      refine lv_iinc (v := (x6 + 1)) (lv' := [(6, .int (x6 + 1)), (5, .int (x5 + v3)), (7, .int y0), (0, .ref (ea E 41)), (1, .int x1), (2, .int x2), (3, .int x3), (4, .int x4)]) hx hb dX6_countOf_126 hl (k := 7) rfl rfl (by decide) rfl (fun ls hl => ?_)
      refine lv_goto (tgt := 40) hx hb dX6_countOf_129 (by decide) ?_
      exact hr40 x1 x2 x3 x4 (x5 + v3) (x6 + 1) hf H locs ls hP hS (lv_sub hl [3, 4, 5, 6, 7, 1, 0] rfl)
    · replace hf := it_f c2 hf
      refine lv_aload_n hx hb dX6_countOf_106 rfl (lv_at hl 1 rfl) ?_
      refine r_get (k := 2) (v := .ref (ea E 43)) C hP oC_41 rfl iX6 (by decide) wm_t286 rfl rfl dX6_countOf_107 ?_
      refine lv_iload hx hb dX6_countOf_110 (lv_at hl 7 rfl) ?_
      have h6 := (rdK_e hf).1
      refine r_ald C hP aC_43 h6 dX6_countOf_112 ?_
      refine lv_topi (fun v5 ev5 => ?_)
      replace hf := rdK_n ev5 hf
      refine lv_goto (tgt := 123) hx hb dX6_countOf_113 (by decide) ?_
      refine lv_iadd hx hb dX6_countOf_123 ?_
      refine lv_istore (lv' := [(5, .int (x5 + v5)), (7, .int y0), (0, .ref (ea E 41)), (1, .int x1), (2, .int x2), (3, .int x3), (4, .int x4), (6, .int x6)]) hx hb dX6_countOf_124 hl (by decide) rfl (fun ls hl => ?_)
      refine lv_iinc (v := (x6 + 1)) (lv' := [(6, .int (x6 + 1)), (5, .int (x5 + v5)), (7, .int y0), (0, .ref (ea E 41)), (1, .int x1), (2, .int x2), (3, .int x3), (4, .int x4)]) hx hb dX6_countOf_126 hl (k := 7) rfl rfl (by decide) rfl (fun ls hl => ?_)
      refine lv_goto (tgt := 40) hx hb dX6_countOf_129 (by decide) ?_
      exact hr40 x1 x2 x3 x4 (x5 + v5) (x6 + 1) hf H locs ls hP hS (lv_sub hl [3, 4, 5, 6, 7, 1, 0] rfl)
def fX6_countOf_91 (σ : St) (rec40 : Int32 → Int32 → Int32 → Int32 → Int32 → Int32 → Option Int32) (x1 : Int32) (x2 : Int32) (x3 : Int32) (x4 : Int32) (x5 : Int32) (x6 : Int32) : Option Int32 :=
fX6_countOf_92 σ rec40 x1 x2 x3 x4 x5 x6 0
set_option maxHeartbeats 4000000 in
theorem b_fX6_countOf_91 {E : Ev} {l : Launch} {p : Program} {e : Env} {s : State} {m : MethodId} {args : Array Value} {below : List Frame} {meth : Method} {c : Code} (σ : St) (C : CX true E RX6 cX6_countOf 8 (some .int) p s m args meth c) {rr : Int32} (rec40 : Int32 → Int32 → Int32 → Int32 → Int32 → Int32 → Option Int32) (hr40 : ∀  (x1 : Int32) (x2 : Int32) (x3 : Int32) (x4 : Int32) (x5 : Int32) (x6 : Int32), rec40 x1 x2 x3 x4 x5 x6 = some rr → GW true l (rmD 2) E 8 p e s m args below meth c (MQ below (QI true E rr σ s.heap.size) args s 0 0 (aW true E s.heap.size)) σ 40 [(0, .ref (ea E 41)), (1, .int x1), (2, .int x2), (3, .int x3), (4, .int x4), (5, .int x5), (6, .int x6)] []) : ∀  (x1 : Int32) (x2 : Int32) (x3 : Int32) (x4 : Int32) (x5 : Int32) (x6 : Int32), fX6_countOf_91 σ rec40 x1 x2 x3 x4 x5 x6 = some rr → GW true l (rmD 2) E 8 p e s m args below meth c (MQ below (QI true E rr σ s.heap.size) args s 0 0 (aW true E s.heap.size)) σ 91 [(0, .ref (ea E 41)), (1, .int x1), (2, .int x2), (3, .int x3), (4, .int x4), (5, .int x5), (6, .int x6)] [] := by
  intro x1 x2 x3 x4 x5 x6 hf H locs ls hP hS hl
  obtain ⟨hx, hb, hr, hml, hown, hts, hlocks, hK, hX, hj⟩ := id C
  unfold fX6_countOf_91 at hf
  refine lv_iconst (v := 0) hx hb dX6_countOf_91 (by decide) ?_
  exact b_fX6_countOf_92 σ C rec40 hr40 x1 x2 x3 x4 x5 x6 0 hf H locs ls hP hS (lv_sub hl [0, 1, 2, 3, 4, 5, 6] rfl)
def fX6_countOf_40B (σ : St) (rec40 : Int32 → Int32 → Int32 → Int32 → Int32 → Int32 → Option Int32) (x1 : Int32) (x2 : Int32) (x3 : Int32) (x4 : Int32) (x5 : Int32) (x6 : Int32) : Option Int32 :=
(if 288 ≤ x6 then
some x5
else
(if (fX6_fits x1 (x6 / 36)) = 0 then
fX6_countOf_91 σ rec40 x1 x2 x3 x4 x5 x6
else
(if (fX6_fits x2 ((x6 / 3) - (x6 / 3) / 12 * 12)) = 0 then
fX6_countOf_91 σ rec40 x1 x2 x3 x4 x5 x6
else
(if (fX6_fits x3 (x6 - x6 / 3 * 3)) = 0 then
fX6_countOf_91 σ rec40 x1 x2 x3 x4 x5 x6
else
fX6_countOf_92 σ rec40 x1 x2 x3 x4 x5 x6 1))))
set_option maxHeartbeats 4000000 in
theorem b_fX6_countOf_40B {E : Ev} {l : Launch} {p : Program} {e : Env} {s : State} {m : MethodId} {args : Array Value} {below : List Frame} {meth : Method} {c : Code} (σ : St) (C : CX true E RX6 cX6_countOf 8 (some .int) p s m args meth c) {rr : Int32} (rec40 : Int32 → Int32 → Int32 → Int32 → Int32 → Int32 → Option Int32) (hr40 : ∀  (x1 : Int32) (x2 : Int32) (x3 : Int32) (x4 : Int32) (x5 : Int32) (x6 : Int32), rec40 x1 x2 x3 x4 x5 x6 = some rr → GW true l (rmD 2) E 8 p e s m args below meth c (MQ below (QI true E rr σ s.heap.size) args s 0 0 (aW true E s.heap.size)) σ 40 [(0, .ref (ea E 41)), (1, .int x1), (2, .int x2), (3, .int x3), (4, .int x4), (5, .int x5), (6, .int x6)] []) : ∀  (x1 : Int32) (x2 : Int32) (x3 : Int32) (x4 : Int32) (x5 : Int32) (x6 : Int32), fX6_countOf_40B σ rec40 x1 x2 x3 x4 x5 x6 = some rr → GW true l (rmD 2) E 8 p e s m args below meth c (MQ below (QI true E rr σ s.heap.size) args s 0 0 (aW true E s.heap.size)) σ 40 [(0, .ref (ea E 41)), (1, .int x1), (2, .int x2), (3, .int x3), (4, .int x4), (5, .int x5), (6, .int x6)] [] := by
  intro x1 x2 x3 x4 x5 x6 hf H locs ls hP hS hl
  obtain ⟨hx, hb, hr, hml, hown, hts, hlocks, hK, hX, hj⟩ := id C
  unfold fX6_countOf_40B at hf
  refine lv_iload hx hb dX6_countOf_40 (lv_at hl 6 rfl) ?_
  refine lv_aload_n hx hb dX6_countOf_42 rfl (lv_at hl 0 rfl) ?_
  refine r_get (k := 1) (v := .ref (ea E 42)) C hP oC_41 rfl iX6 (by decide) wm_t285 rfl rfl dX6_countOf_43 ?_
  refine r_alen (v := 288) C hP aC_42 rfl dX6_countOf_46 ?_
  refine lv_icmp_ge (tgt := 132) hx hb dX6_countOf_47 (by decide) (fun c1 => ?_) (fun c1 => ?_)
  · replace hf := it_t c1 hf
    refine lv_iload hx hb dX6_countOf_132 (lv_at hl 5 rfl) ?_
    cases hf
    exact r_iret C hP hS dX6_countOf_134
  · replace hf := it_f c1 hf
    refine lv_iload_n hx hb dX6_countOf_50 rfl (lv_at hl 1 rfl) ?_
    refine lv_iload hx hb dX6_countOf_51 (lv_at hl 6 rfl) ?_
    refine lv_bipush (v := 36) hx hb dX6_countOf_53 (by decide) ?_
    refine lv_idiv hx hb dX6_countOf_55 (by decide) ?_
    refine r_cSi (n := 2) (As := [.int x1, .int (x6 / 36)]) (rest := []) C (c_fX6_fits hj σ H.size x1 (x6 / 36)) gs_RX6_26 (by decide +kernel) (rmD_le (by decide) (by decide)) rfl rfl (Nat.le_of_ble_eq_true rfl) dX6_countOf_56 hP hS hl.1 (fun H locs hP hS => ?_)
    refine lv_if_eq (tgt := 91) hx hb dX6_countOf_59 (by decide) (fun c2 => ?_) (fun c2 => ?_)
    · replace hf := it_t c2 hf
      exact b_fX6_countOf_91 σ C rec40 hr40 x1 x2 x3 x4 x5 x6 hf H locs ls hP hS (lv_sub hl [0, 1, 2, 3, 4, 5, 6] rfl)
    · replace hf := it_f c2 hf
      refine lv_iload_n hx hb dX6_countOf_62 rfl (lv_at hl 2 rfl) ?_
      refine lv_iload hx hb dX6_countOf_63 (lv_at hl 6 rfl) ?_
      refine lv_iconst (v := 3) hx hb dX6_countOf_65 (by decide) ?_
      refine lv_idiv hx hb dX6_countOf_66 (by decide) ?_
      refine lv_bipush (v := 12) hx hb dX6_countOf_67 (by decide) ?_
      refine lv_irem hx hb dX6_countOf_69 (by decide) ?_
      refine r_cSi (n := 2) (As := [.int x2, .int ((x6 / 3) - (x6 / 3) / 12 * 12)]) (rest := []) C (c_fX6_fits hj σ H.size x2 ((x6 / 3) - (x6 / 3) / 12 * 12)) gs_RX6_26 (by decide +kernel) (rmD_le (by decide) (by decide)) rfl rfl (Nat.le_of_ble_eq_true rfl) dX6_countOf_70 hP hS hl.1 (fun H locs hP hS => ?_)
      refine lv_if_eq (tgt := 91) hx hb dX6_countOf_73 (by decide) (fun c3 => ?_) (fun c3 => ?_)
      · replace hf := it_t c3 hf
        exact b_fX6_countOf_91 σ C rec40 hr40 x1 x2 x3 x4 x5 x6 hf H locs ls hP hS (lv_sub hl [0, 1, 2, 3, 4, 5, 6] rfl)
      · replace hf := it_f c3 hf
        refine lv_iload_n hx hb dX6_countOf_76 rfl (lv_at hl 3 rfl) ?_
        refine lv_iload hx hb dX6_countOf_77 (lv_at hl 6 rfl) ?_
        refine lv_iconst (v := 3) hx hb dX6_countOf_79 (by decide) ?_
        refine lv_irem hx hb dX6_countOf_80 (by decide) ?_
        refine r_cSi (n := 2) (As := [.int x3, .int (x6 - x6 / 3 * 3)]) (rest := []) C (c_fX6_fits hj σ H.size x3 (x6 - x6 / 3 * 3)) gs_RX6_26 (by decide +kernel) (rmD_le (by decide) (by decide)) rfl rfl (Nat.le_of_ble_eq_true rfl) dX6_countOf_81 hP hS hl.1 (fun H locs hP hS => ?_)
        refine lv_if_eq (tgt := 91) hx hb dX6_countOf_84 (by decide) (fun c4 => ?_) (fun c4 => ?_)
        · replace hf := it_t c4 hf
          exact b_fX6_countOf_91 σ C rec40 hr40 x1 x2 x3 x4 x5 x6 hf H locs ls hP hS (lv_sub hl [0, 1, 2, 3, 4, 5, 6] rfl)
        · replace hf := it_f c4 hf
          refine lv_iconst (v := 1) hx hb dX6_countOf_87 (by decide) ?_
          refine lv_goto (tgt := 92) hx hb dX6_countOf_88 (by decide) ?_
          exact b_fX6_countOf_92 σ C rec40 hr40 x1 x2 x3 x4 x5 x6 1 hf H locs ls hP hS (lv_sub hl [0, 1, 2, 3, 4, 5, 6] rfl)
def fX6_countOf_40 (σ : St) : Nat → Int32 → Int32 → Int32 → Int32 → Int32 → Int32 → Option Int32
  | 0 => fun _ _ _ _ _ _ => none
  | n + 1 => fun x1 x2 x3 x4 x5 x6 => fX6_countOf_40B σ (fX6_countOf_40 σ n) x1 x2 x3 x4 x5 x6
theorem b_fX6_countOf_40 {E : Ev} {l : Launch} {p : Program} {e : Env} {s : State} {m : MethodId} {args : Array Value} {below : List Frame} {meth : Method} {c : Code} (σ : St) (C : CX true E RX6 cX6_countOf 8 (some .int) p s m args meth c) {rr : Int32} : ∀ (n : Nat) (x1 : Int32) (x2 : Int32) (x3 : Int32) (x4 : Int32) (x5 : Int32) (x6 : Int32), fX6_countOf_40 σ n x1 x2 x3 x4 x5 x6 = some rr → GW true l (rmD 2) E 8 p e s m args below meth c (MQ below (QI true E rr σ s.heap.size) args s 0 0 (aW true E s.heap.size)) σ 40 [(0, .ref (ea E 41)), (1, .int x1), (2, .int x2), (3, .int x3), (4, .int x4), (5, .int x5), (6, .int x6)] [] := by
  intro n
  induction n with
  | zero => intro x1 x2 x3 x4 x5 x6 hf; have hf : (none : Option _) = some _ := hf; cases hf
  | succ n ih => intro x1 x2 x3 x4 x5 x6 hf; exact b_fX6_countOf_40B σ C (fX6_countOf_40 σ n) ih x1 x2 x3 x4 x5 x6 hf
def fX6_countOf (σ : St) (a0 : Int32) (a1 : Int32) (a2 : Int32) (a3 : Int32) : Option Int32 :=
(if (fX10_within (a0 + 1) 9) = 0 then
some (-1)
else
(if (fX10_within (a1 + 1) 13) = 0 then
some (-1)
else
(if (fX10_within (a2 + 1) 4) = 0 then
some (-1)
else
fX6_countOf_40 σ FU a0 a1 a2 a3 0 0)))
set_option maxHeartbeats 4000000 in
theorem c_fX6_countOf {E : Ev} {l : Launch} (hj : jW true E) (σ : St) (sz : Nat) (a0 : Int32) (a1 : Int32) (a2 : Int32) (a3 : Int32) {rr : Int32} (hf : fX6_countOf σ a0 a1 a2 a3 = some rr) : Met l yX6_countOf (Cond.code yX6_countOf cX6_countOf 8 (some .int) :: gT) (rmD 2) (va_Pc [.ref (ea E 41), .int a0, .int a1, .int a2, .int a3] (preW true E σ sz)) (QI true E rr σ sz) 0 0 (aW true E sz) := by
  refine r_entry (QI true E rr σ) hj (by decide) [.ref (ea E 41), .int a0, .int a1, .int a2, .int a3] (Nat.le_of_ble_eq_true rfl) (fun p e s m args below meth c C => ?_)
  intro H locs ls hP hS hl
  have hl : lv_has ls 8 [(0, .ref (ea E 41)), (1, .int a0), (2, .int a1), (3, .int a2), (4, .int a3)] := hl
  obtain ⟨hx, hb, hr, hml, hown, hts, hlocks, hK, hX, hj⟩ := id C
  unfold fX6_countOf at hf
  refine lv_iload_n hx hb dX6_countOf_0 rfl (lv_at hl 1 rfl) ?_
  refine lv_iconst (v := 1) hx hb dX6_countOf_1 (by decide) ?_
  refine lv_iadd hx hb dX6_countOf_2 ?_
  refine lv_bipush (v := 9) hx hb dX6_countOf_3 (by decide) ?_
  refine r_cNi (n := 2) (As := [.int (a0 + 1), .int 9]) (rest := []) (host := "SoupCargo") C (c_fX10_within hj σ H.size (a0 + 1) 9) (by decide +kernel) wm_t343 wm_t1 wm_t342 (by decide +kernel) (rmD_le (by decide) (by decide)) rfl rfl (Nat.le_of_ble_eq_true rfl) dX6_countOf_5 hP hS hl.1 (fun H locs hP hS => ?_)
  refine lv_if_eq (tgt := 32) hx hb dX6_countOf_8 (by decide) (fun c1 => ?_) (fun c1 => ?_)
  · replace hf := it_t c1 hf
    refine lv_iconst (v := (-1)) hx hb dX6_countOf_32 (by decide) ?_
    cases hf
    exact r_iret C hP hS dX6_countOf_33
  · replace hf := it_f c1 hf
    refine lv_iload_n hx hb dX6_countOf_11 rfl (lv_at hl 2 rfl) ?_
    refine lv_iconst (v := 1) hx hb dX6_countOf_12 (by decide) ?_
    refine lv_iadd hx hb dX6_countOf_13 ?_
    refine lv_bipush (v := 13) hx hb dX6_countOf_14 (by decide) ?_
    refine r_cNi (n := 2) (As := [.int (a1 + 1), .int 13]) (rest := []) (host := "SoupCargo") C (c_fX10_within hj σ H.size (a1 + 1) 13) (by decide +kernel) wm_t343 wm_t1 wm_t342 (by decide +kernel) (rmD_le (by decide) (by decide)) rfl rfl (Nat.le_of_ble_eq_true rfl) dX6_countOf_16 hP hS hl.1 (fun H locs hP hS => ?_)
    refine lv_if_eq (tgt := 32) hx hb dX6_countOf_19 (by decide) (fun c2 => ?_) (fun c2 => ?_)
    · replace hf := it_t c2 hf
      refine lv_iconst (v := (-1)) hx hb dX6_countOf_32 (by decide) ?_
      cases hf
      exact r_iret C hP hS dX6_countOf_33
    · replace hf := it_f c2 hf
      refine lv_iload_n hx hb dX6_countOf_22 rfl (lv_at hl 3 rfl) ?_
      refine lv_iconst (v := 1) hx hb dX6_countOf_23 (by decide) ?_
      refine lv_iadd hx hb dX6_countOf_24 ?_
      refine lv_iconst (v := 4) hx hb dX6_countOf_25 (by decide) ?_
      refine r_cNi (n := 2) (As := [.int (a2 + 1), .int 4]) (rest := []) (host := "SoupCargo") C (c_fX10_within hj σ H.size (a2 + 1) 4) (by decide +kernel) wm_t343 wm_t1 wm_t342 (by decide +kernel) (rmD_le (by decide) (by decide)) rfl rfl (Nat.le_of_ble_eq_true rfl) dX6_countOf_26 hP hS hl.1 (fun H locs hP hS => ?_)
      refine lv_if_ne (tgt := 34) hx hb dX6_countOf_29 (by decide) (fun c3 => ?_) (fun c3 => ?_)
      · replace hf := it_f c3 hf
        refine lv_iconst (v := 0) hx hb dX6_countOf_34 (by decide) ?_
        refine lv_istore (lv' := [(5, .int 0), (0, .ref (ea E 41)), (1, .int a0), (2, .int a1), (3, .int a2), (4, .int a3)]) hx hb dX6_countOf_35 hl (by decide) rfl (fun ls hl => ?_)
        refine lv_iconst (v := 0) hx hb dX6_countOf_37 (by decide) ?_
        refine lv_istore (lv' := [(6, .int 0), (5, .int 0), (0, .ref (ea E 41)), (1, .int a0), (2, .int a1), (3, .int a2), (4, .int a3)]) hx hb dX6_countOf_38 hl (by decide) rfl (fun ls hl => ?_)
        exact b_fX6_countOf_40 σ C FU a0 a1 a2 a3 0 0 hf H locs ls hP hS (lv_sub hl [2, 3, 4, 5, 6, 1, 0] rfl)
      · replace hf := it_t c3 hf
        refine lv_iconst (v := (-1)) hx hb dX6_countOf_32 (by decide) ?_
        cases hf
        exact r_iret C hP hS dX6_countOf_33
