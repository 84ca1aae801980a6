def fX5_flowOver_25 (b : Nat) (σ : St) (x1 : Int32) (x2 : Int32) (y0 : Int32) (y1 : Int32) : Option St :=
(cq (fX8_topIsSoup (b + 2) σ x1) fun r1 =>
(if r1 = 0 then
some σ
else
(cq (fX8_height (b + 2) σ x2) fun r4 =>
(if (y1 - y0) < r4 then
some σ
else
(cb (fX8_moveTopF (b + 2) σ x1 x2) fun r7 σ9 =>
some σ9)))))
set_option maxHeartbeats 4000000 in
theorem b_fX5_flowOver_25 {E : Ev} {l : Launch} {p : Program} {e : Env} {s : State} {m : MethodId} {args : Array Value} {below : List Frame} {meth : Method} {c : Code} {b : Nat} (hfb : fV b) (C : CX true E RX5 cX5_flowOver 4 none p s m args meth c) {sr : St} : ∀ (σ : St) (x1 : Int32) (x2 : Int32) (y0 : Int32) (y1 : Int32), fX5_flowOver_25 b σ x1 x2 y0 y1 = some sr → GW true l (rmD 4) E 4 p e s m args below meth c (MQ below (QV true E sr s.heap.size) args s 0 0 (aW true E s.heap.size)) σ 25 [(0, .ref (ea E b)), (1, .int x1), (2, .int x2)] [.int y0, .int y1] := by
  intro σ x1 x2 y0 y1 hf H locs ls hP hS hl
  obtain ⟨hx, hb, hr, hml, hown, hts, hlocks, hK, hX, hj⟩ := id C
  unfold fX5_flowOver_25 at hf
  refine lv_isub hx hb dX5_flowOver_25 ?_
  refine lv_istore_n (lv' := [(3, .int (y1 - y0)), (0, .ref (ea E b)), (1, .int x1), (2, .int x2)]) hx hb dX5_flowOver_26 rfl hl (by decide) rfl (fun ls hl => ?_)
  refine lv_aload_n hx hb dX5_flowOver_27 rfl (lv_at hl 1 rfl) ?_
  refine r_get (k := 0) (v := .ref (ea E (b + 2))) C hP (oV hfb) rfl iX5 (by decide) wm_t94 rfl rfl dX5_flowOver_28 ?_
  refine lv_iload_n hx hb dX5_flowOver_31 rfl (lv_at hl 2 rfl) ?_
  obtain ⟨r1, hc2, hf⟩ := cq_e hf
  refine r_cVi (n := 1) (As := [.int x1]) (rest := []) C (c_fX8_topIsSoup (fV_S hfb) hj σ H.size x1 hc2) (oS (fV_S hfb)) rfl gv_RX5_118 (by decide +kernel) (rmD_le (by decide) (by decide)) rfl rfl (Nat.le_of_ble_eq_true rfl) dX5_flowOver_32 hP hS hl.1 (fun H locs hP hS => ?_)
  refine lv_if_eq (tgt := 64) hx hb dX5_flowOver_35 (by decide) (fun c3 => ?_) (fun c3 => ?_)
  · replace hf := it_t c3 hf
    cases hf
    exact r_vret C hP hS dX5_flowOver_64
  · replace hf := it_f c3 hf
    refine lv_aload_n hx hb dX5_flowOver_38 rfl (lv_at hl 1 rfl) ?_
    refine r_get (k := 0) (v := .ref (ea E (b + 2))) C hP (oV hfb) rfl iX5 (by decide) wm_t94 rfl rfl dX5_flowOver_39 ?_
    refine lv_iload_n hx hb dX5_flowOver_42 rfl (lv_at hl 3 rfl) ?_
    obtain ⟨r4, hc5, hf⟩ := cq_e hf
    refine r_cVi (n := 1) (As := [.int x2]) (rest := []) C (c_fX8_height (fV_S hfb) hj σ H.size x2 hc5) (oS (fV_S hfb)) rfl gv_RX5_115 (by decide +kernel) (rmD_le (by decide) (by decide)) rfl rfl (Nat.le_of_ble_eq_true rfl) dX5_flowOver_43 hP hS hl.1 (fun H locs hP hS => ?_)
    refine lv_iload_n hx hb dX5_flowOver_46 rfl (lv_at hl 0 rfl) ?_
    refine lv_icmp_gt (tgt := 64) hx hb dX5_flowOver_47 (by decide) (fun c6 => ?_) (fun c6 => ?_)
    · replace hf := it_t c6 hf
      cases hf
      exact r_vret C hP hS dX5_flowOver_64
    · replace hf := it_f c6 hf
      refine lv_aload_n hx hb dX5_flowOver_50 rfl (lv_at hl 1 rfl) ?_
      refine r_get (k := 0) (v := .ref (ea E (b + 2))) C hP (oV hfb) rfl iX5 (by decide) wm_t94 rfl rfl dX5_flowOver_51 ?_
      refine lv_iload_n hx hb dX5_flowOver_54 rfl (lv_at hl 2 rfl) ?_
      refine lv_aload_n hx hb dX5_flowOver_55 rfl (lv_at hl 1 rfl) ?_
      refine r_get (k := 0) (v := .ref (ea E (b + 2))) C hP (oV hfb) rfl iX5 (by decide) wm_t94 rfl rfl dX5_flowOver_56 ?_
      refine lv_iload_n hx hb dX5_flowOver_59 rfl (lv_at hl 3 rfl) ?_
      obtain ⟨r7, σ9, hc8, hf⟩ := cb_e hf
      refine r_cVi (n := 3) (As := [.int x1, .ref (ea E (b + 2)), .int x2]) (rest := []) C (c_fX8_moveTopF (fV_S hfb) hj σ H.size x1 x2 hc8) (oS (fV_S hfb)) rfl gv_RX5_122 (by decide +kernel) (rmD_le (by decide) (by decide)) rfl rfl (Nat.le_of_ble_eq_true rfl) dX5_flowOver_60 hP hS hl.1 (fun H locs hP hS => ?_)
      refine lv_pop hx hb dX5_flowOver_63 rfl ?_
      cases hf
      exact r_vret C hP hS dX5_flowOver_64
def fX5_flowOver (b : Nat) (σ : St) (a0 : Int32) (a1 : Int32) : Option St :=
(cq (fX8_height (b + 2) σ a0) fun r1 =>
(if (if 0 ≤ (σ b 5) then (σ b 5) else 0 - (σ b 5)) < 10 then
fX5_flowOver_25 b σ a0 a1 1 r1
else
fX5_flowOver_25 b σ a0 a1 0 r1))
set_option maxHeartbeats 4000000 in
theorem c_fX5_flowOver {E : Ev} {l : Launch} {b : Nat} (hfb : fV b) (hj : jW true E) (σ : St) (sz : Nat) (a0 : Int32) (a1 : Int32) {sr : St} (hf : fX5_flowOver b σ a0 a1 = some sr) : Met l yX5_flowOver (Cond.code yX5_flowOver cX5_flowOver 4 none :: gT) (rmD 4) (va_Pc [.ref (ea E b), .int a0, .int a1] (preW true E σ sz)) (QV true E sr sz) 0 0 (aW true E sz) := by
  refine r_entry (QV true E sr) hj (by decide) [.ref (ea E b), .int a0, .int a1] (Nat.le_of_ble_eq_true rfl) (fun p e s m args below meth c C => ?_)
  intro H locs ls hP hS hl
  have hl : lv_has ls 4 [(0, .ref (ea E b)), (1, .int a0), (2, .int a1)] := hl
  obtain ⟨hx, hb, hr, hml, hown, hts, hlocks, hK, hX, hj⟩ := id C
  unfold fX5_flowOver at hf
  refine lv_aload_n hx hb dX5_flowOver_0 rfl (lv_at hl 0 rfl) ?_
  refine r_get (k := 0) (v := .ref (ea E (b + 2))) C hP (oV hfb) rfl iX5 (by decide) wm_t94 rfl rfl dX5_flowOver_1 ?_
  refine lv_iload_n hx hb dX5_flowOver_4 rfl (lv_at hl 1 rfl) ?_
  obtain ⟨r1, hc2, hf⟩ := cq_e hf
  refine r_cVi (n := 1) (As := [.int a0]) (rest := []) C (c_fX8_height (fV_S hfb) hj σ H.size a0 hc2) (oS (fV_S hfb)) rfl gv_RX5_115 (by decide +kernel) (rmD_le (by decide) (by decide)) rfl rfl (Nat.le_of_ble_eq_true rfl) dX5_flowOver_5 hP hS hl.1 (fun H locs hP hS => ?_)
  refine lv_aload_n hx hb dX5_flowOver_8 rfl (lv_at hl 0 rfl) ?_
  refine r_get (k := 5) (v := .int (σ b 5)) C hP (oV hfb) rfl iX5 (by decide) wm_t102 rfl rfl dX5_flowOver_9 ?_
  refine va_mabs hx hb (hml.trans hl.1.symm) hown (hts _ wm_t740) (hts _ wm_t741) (hts _ wm_t4) (hts _ wm_t742) (by decide) (Nat.le_of_ble_eq_true rfl) (Nat.zero_le _) (Nat.zero_le _) dX5_flowOver_12 ?_
  refine lv_bipush (v := 10) hx hb dX5_flowOver_15 (by decide) ?_
  refine lv_icmp_lt (tgt := 24) hx hb dX5_flowOver_17 (by decide) (fun c3 => ?_) (fun c3 => ?_)
  · replace hf := it_t c3 hf
    refine lv_iconst (v := 1) hx hb dX5_flowOver_24 (by decide) ?_
    exact b_fX5_flowOver_25 hfb C σ a0 a1 1 r1 hf H locs ls hP hS (lv_sub hl [0, 1, 2] rfl)
  · replace hf := it_f c3 hf
    refine lv_iconst (v := 0) hx hb dX5_flowOver_20 (by decide) ?_
    refine lv_goto (tgt := 25) hx hb dX5_flowOver_21 (by decide) ?_
    exact b_fX5_flowOver_25 hfb C σ a0 a1 0 r1 hf H locs ls hP hS (lv_sub hl [0, 1, 2] rfl)
def fX8_lawOf_80 (b : Nat) (σ : St) (x2 : Int32) (y0 : Int32) : Option (Int32 × St) :=
(cv (fX2_setLight σ y0) fun σ2 =>
(cb (fX2_comesTo σ2 x2) fun r3 σ5 =>
some (r3, σ5)))
set_option maxHeartbeats 4000000 in
theorem b_fX8_lawOf_80 {E : Ev} {l : Launch} {p : Program} {e : Env} {s : State} {m : MethodId} {args : Array Value} {below : List Frame} {meth : Method} {c : Code} {b : Nat} (hfb : fS b) (C : CX true E RX8 cX8_lawOf 5 (some .int) p s m args meth c) {rr : Int32} {sr : St} : ∀ (σ : St) (x2 : Int32) (y0 : Int32), fX8_lawOf_80 b σ x2 y0 = some (rr, sr) → GW true l (rmD 4) E 5 p e s m args below meth c (MQ below (QI true E rr sr s.heap.size) args s 0 0 (aW true E s.heap.size)) σ 80 [(1, .ref (ea E 28)), (2, .int x2)] [.int y0, .ref (ea E 28)] := by
  intro σ x2 y0 hf H locs ls hP hS hl
  obtain ⟨hx, hb, hr, hml, hown, hts, hlocks, hK, hX, hj⟩ := id C
  unfold fX8_lawOf_80 at hf
  obtain ⟨σ2, hc1, hf⟩ := cv_e hf
  refine r_cVv (n := 1) (As := [.int y0]) (rest := []) C (c_fX2_setLight hj σ H.size y0 hc1) oC_28 rfl gv_RX8_67 (by decide +kernel) (rmD_le (by decide) (by decide)) rfl rfl (Nat.le_of_ble_eq_true rfl) dX8_lawOf_80 hP hS hl.1 (fun H locs hP hS => ?_)
  refine lv_aload_n hx hb dX8_lawOf_83 rfl (lv_at hl 0 rfl) ?_
  refine lv_iload_n hx hb dX8_lawOf_84 rfl (lv_at hl 1 rfl) ?_
  obtain ⟨r3, σ5, hc4, hf⟩ := cb_e hf
  refine r_cVi (n := 1) (As := [.int x2]) (rest := []) C (c_fX2_comesTo hj σ2 H.size x2 hc4) oC_28 rfl gv_RX8_71 (by decide +kernel) (rmD_le (by decide) (by decide)) rfl rfl (Nat.le_of_ble_eq_true rfl) dX8_lawOf_85 hP hS hl.1 (fun H locs hP hS => ?_)
  cases hf
  exact r_iret C hP hS dX8_lawOf_88
def fX8_lawOf_79 (b : Nat) (σ : St) (x2 : Int32) : Option (Int32 × St) :=
fX8_lawOf_80 b σ x2 0
set_option maxHeartbeats 4000000 in
theorem b_fX8_lawOf_79 {E : Ev} {l : Launch} {p : Program} {e : Env} {s : State} {m : MethodId} {args : Array Value} {below : List Frame} {meth : Method} {c : Code} {b : Nat} (hfb : fS b) (C : CX true E RX8 cX8_lawOf 5 (some .int) p s m args meth c) {rr : Int32} {sr : St} : ∀ (σ : St) (x2 : Int32), fX8_lawOf_79 b σ x2 = some (rr, sr) → GW true l (rmD 4) E 5 p e s m args below meth c (MQ below (QI true E rr sr s.heap.size) args s 0 0 (aW true E s.heap.size)) σ 79 [(1, .ref (ea E 28)), (2, .int x2)] [.ref (ea E 28)] := by
  intro σ x2 hf H locs ls hP hS hl
  obtain ⟨hx, hb, hr, hml, hown, hts, hlocks, hK, hX, hj⟩ := id C
  unfold fX8_lawOf_79 at hf
  refine lv_iconst (v := 0) hx hb dX8_lawOf_79 (by decide) ?_
  exact b_fX8_lawOf_80 hfb C σ x2 0 hf H locs ls hP hS (lv_sub hl [0, 1] rfl)
def fX8_lawOf (b : Nat) (σ : St) (a1 : Int32) (a2 : Int32) : Option (Int32 × St) :=
(if (σ b 1) < 1 then
some (0, σ)
else
(rdK (stN b) (σ (b + 1)) a2 fun v2 =>
(if v2 = 0 then
some (0, σ)
else
(nz (σ b 1) (
(rdK (stN b) (σ (b + 1)) a2 fun v6 =>
(rdK (stN b) (σ (b + 2)) a2 fun v8 =>
(rdK (stN b) (σ (b + 3)) a2 fun v10 =>
(cv (fX2_setCell σ v6 v8 (a2 - a2 / (σ b 1) * (σ b 1)) v10) fun σ13 =>
(if (σ13 b 2) = 0 then
fX8_lawOf_79 b σ13 a1
else
(nz (σ13 b 1) (
(cq (fX8_isLit b σ13 (a2 / (σ13 b 1)) (a2 - a2 / (σ b 1) * (σ b 1))) fun r16 =>
(if r16 = 0 then
fX8_lawOf_79 b σ13 a1
else
fX8_lawOf_80 b σ13 a1 1))))))))))))))
set_option maxHeartbeats 4000000 in
theorem c_fX8_lawOf {E : Ev} {l : Launch} {b : Nat} (hfb : fS b) (hj : jW true E) (σ : St) (sz : Nat) (a1 : Int32) (a2 : Int32) {rr : Int32} {sr : St} (hf : fX8_lawOf b σ a1 a2 = some (rr, sr)) : Met l yX8_lawOf (Cond.code yX8_lawOf cX8_lawOf 5 (some .int) :: gT) (rmD 4) (va_Pc [.ref (ea E b), .ref (ea E 28), .int a1, .int a2] (preW true E σ sz)) (QI true E rr sr sz) 0 0 (aW true E sz) := by
  refine r_entry (QI true E rr sr) hj (by decide) [.ref (ea E b), .ref (ea E 28), .int a1, .int a2] (Nat.le_of_ble_eq_true rfl) (fun p e s m args below meth c C => ?_)
  intro H locs ls hP hS hl
  have hl : lv_has ls 5 [(0, .ref (ea E b)), (1, .ref (ea E 28)), (2, .int a1), (3, .int a2)] := hl
  obtain ⟨hx, hb, hr, hml, hown, hts, hlocks, hK, hX, hj⟩ := id C
  unfold fX8_lawOf at hf
  refine lv_aload_n hx hb dX8_lawOf_0 rfl (lv_at hl 0 rfl) ?_
  refine r_get (k := 1) (v := .int (σ b 1)) C hP (oS hfb) rfl iX8 (by decide) wm_t53 rfl rfl dX8_lawOf_1 ?_
  refine lv_iconst (v := 1) hx hb dX8_lawOf_4 (by decide) ?_
  refine lv_icmp_lt (tgt := 17) hx hb dX8_lawOf_5 (by decide) (fun c1 => ?_) (fun c1 => ?_)
  · replace hf := it_t c1 hf
    refine lv_iconst (v := 0) hx hb dX8_lawOf_17 (by decide) ?_
    cases hf
    exact r_iret C hP hS dX8_lawOf_18
  · replace hf := it_f c1 hf
    refine lv_aload_n hx hb dX8_lawOf_8 rfl (lv_at hl 0 rfl) ?_
    refine r_get (k := 3) (v := .ref (ea E (b + 1))) C hP (oS hfb) rfl iX8 (by decide) wm_t55 rfl rfl dX8_lawOf_9 ?_
    refine lv_iload_n hx hb dX8_lawOf_12 rfl (lv_at hl 3 rfl) ?_
    have h3 := (rdK_e hf).1
    refine r_ald C hP (aS_1 hfb) h3 dX8_lawOf_13 ?_
    refine lv_topi (fun v2 ev2 => ?_)
    replace hf := rdK_n ev2 hf
    refine lv_if_ne (tgt := 19) hx hb dX8_lawOf_14 (by decide) (fun c4 => ?_) (fun c4 => ?_)
    · replace hf := it_f c4 hf
      refine lv_iload_n hx hb dX8_lawOf_19 rfl (lv_at hl 3 rfl) ?_
      refine lv_aload_n hx hb dX8_lawOf_20 rfl (lv_at hl 0 rfl) ?_
      refine r_get (k := 1) (v := .int (σ b 1)) C hP (oS hfb) rfl iX8 (by decide) wm_t53 rfl rfl dX8_lawOf_21 ?_
      obtain ⟨h5, hf⟩ := nz_e hf
      refine lv_irem hx hb dX8_lawOf_24 h5 ?_
      refine lv_istore (lv' := [(4, .int (a2 - a2 / (σ b 1) * (σ b 1))), (0, .ref (ea E b)), (1, .ref (ea E 28)), (2, .int a1), (3, .int a2)]) hx hb dX8_lawOf_25 hl (by decide) rfl (fun ls hl => ?_)
      refine lv_aload_n hx hb dX8_lawOf_27 rfl (lv_at hl 2 rfl) ?_
      refine lv_aload_n hx hb dX8_lawOf_28 rfl (lv_at hl 1 rfl) ?_
      refine r_get (k := 3) (v := .ref (ea E (b + 1))) C hP (oS hfb) rfl iX8 (by decide) wm_t55 rfl rfl dX8_lawOf_29 ?_
      refine lv_iload_n hx hb dX8_lawOf_32 rfl (lv_at hl 4 rfl) ?_
      have h7 := (rdK_e hf).1
      refine r_ald C hP (aS_1 hfb) h7 dX8_lawOf_33 ?_
      refine lv_topi (fun v6 ev6 => ?_)
      replace hf := rdK_n ev6 hf
      refine lv_aload_n hx hb dX8_lawOf_34 rfl (lv_at hl 1 rfl) ?_
      refine r_get (k := 4) (v := .ref (ea E (b + 2))) C hP (oS hfb) rfl iX8 (by decide) wm_t60 rfl rfl dX8_lawOf_35 ?_
      refine lv_iload_n hx hb dX8_lawOf_38 rfl (lv_at hl 4 rfl) ?_
      have h9 := (rdK_e hf).1
      refine r_ald C hP (aS_2 hfb) h9 dX8_lawOf_39 ?_
      refine lv_topi (fun v8 ev8 => ?_)
      replace hf := rdK_n ev8 hf
      refine lv_iload hx hb dX8_lawOf_40 (lv_at hl 0 rfl) ?_
      refine lv_aload_n hx hb dX8_lawOf_42 rfl (lv_at hl 1 rfl) ?_
      refine r_get (k := 5) (v := .ref (ea E (b + 3))) C hP (oS hfb) rfl iX8 (by decide) wm_t63 rfl rfl dX8_lawOf_43 ?_
      refine lv_iload_n hx hb dX8_lawOf_46 rfl (lv_at hl 4 rfl) ?_
      have h11 := (rdK_e hf).1
      refine r_ald C hP (aS_3 hfb) h11 dX8_lawOf_47 ?_
      refine lv_topi (fun v10 ev10 => ?_)
      replace hf := rdK_n ev10 hf
      obtain ⟨σ13, hc12, hf⟩ := cv_e hf
      refine r_cVv (n := 4) (As := [.int v6, .int v8, .int (a2 - a2 / (σ b 1) * (σ b 1)), .int v10]) (rest := []) C (c_fX2_setCell hj σ H.size v6 v8 (a2 - a2 / (σ b 1) * (σ b 1)) v10 hc12) oC_28 rfl gv_RX8_57 (by decide +kernel) (rmD_le (by decide) (by decide)) rfl rfl (Nat.le_of_ble_eq_true rfl) dX8_lawOf_48 hP hS hl.1 (fun H locs hP hS => ?_)
      refine lv_aload_n hx hb dX8_lawOf_51 rfl (lv_at hl 2 rfl) ?_
      refine lv_aload_n hx hb dX8_lawOf_52 rfl (lv_at hl 1 rfl) ?_
      refine r_get (k := 2) (v := .int (σ13 b 2)) C hP (oS hfb) rfl iX8 (by decide) wm_t54 rfl rfl dX8_lawOf_53 ?_
      refine lv_if_eq (tgt := 79) hx hb dX8_lawOf_56 (by decide) (fun c14 => ?_) (fun c14 => ?_)
      · replace hf := it_t c14 hf
        exact b_fX8_lawOf_79 hfb C σ13 a1 hf H locs ls hP hS (lv_sub hl [2, 3] rfl)
      · replace hf := it_f c14 hf
        refine lv_aload_n hx hb dX8_lawOf_59 rfl (lv_at hl 1 rfl) ?_
        refine lv_aload_n hx hb dX8_lawOf_60 rfl (lv_at hl 2 rfl) ?_
        refine lv_iload_n hx hb dX8_lawOf_61 rfl (lv_at hl 4 rfl) ?_
        refine lv_aload_n hx hb dX8_lawOf_62 rfl (lv_at hl 1 rfl) ?_
        refine r_get (k := 1) (v := .int (σ13 b 1)) C hP (oS hfb) rfl iX8 (by decide) wm_t53 rfl rfl dX8_lawOf_63 ?_
        obtain ⟨h15, hf⟩ := nz_e hf
        refine lv_idiv hx hb dX8_lawOf_66 h15 ?_
        refine lv_iload hx hb dX8_lawOf_67 (lv_at hl 0 rfl) ?_
        obtain ⟨r16, hc17, hf⟩ := cq_e hf
        refine r_cVi (n := 3) (As := [.ref (ea E 28), .int (a2 / (σ13 b 1)), .int (a2 - a2 / (σ b 1) * (σ b 1))]) (rest := [.ref (ea E 28)]) C (c_fX8_isLit hfb hj σ13 H.size (a2 / (σ13 b 1)) (a2 - a2 / (σ b 1) * (σ b 1)) hc17) (oS hfb) rfl gv_RX8_63 (by decide +kernel) (rmD_le (by decide) (by decide)) rfl rfl (Nat.le_of_ble_eq_true rfl) dX8_lawOf_69 hP hS hl.1 (fun H locs hP hS => ?_)
        refine lv_if_eq (tgt := 79) hx hb dX8_lawOf_72 (by decide) (fun c18 => ?_) (fun c18 => ?_)
        · replace hf := it_t c18 hf
          exact b_fX8_lawOf_79 hfb C σ13 a1 hf H locs ls hP hS (lv_sub hl [2, 3] rfl)
        · replace hf := it_f c18 hf
          refine lv_iconst (v := 1) hx hb dX8_lawOf_75 (by decide) ?_
          refine lv_goto (tgt := 80) hx hb dX8_lawOf_76 (by decide) ?_
          exact b_fX8_lawOf_80 hfb C σ13 a1 1 hf H locs ls hP hS (lv_sub hl [2, 3] rfl)
    · replace hf := it_t c4 hf
      refine lv_iconst (v := 0) hx hb dX8_lawOf_17 (by decide) ?_
      cases hf
      exact r_iret C hP hS dX8_lawOf_18
def fX8_rainAndDry_2B (b : Nat) (rec2 : St → Int32 → Int32 → Option St) (σ : St) (x2 : Int32) (x3 : Int32) : Option St :=
(if (σ b 0) ≤ x3 then
some σ
else
(cq (fX8_height b σ x3) fun r2 =>
(if r2 ≤ 0 then
rec2 σ x2 (x3 + 1)
else
(cv (fX8_pour b σ (((x3 * (σ b 1)) + r2) - 1) x2) fun σ6 =>
(rdK (stN b) (σ6 (b + 2)) (((x3 * (σ b 1)) + r2) - 1) fun v7 =>
(cb (fX8_lawOf b σ6 1 (((x3 * (σ b 1)) + r2) - 1)) fun r9 σ11 =>
(rdK (stN b) (σ11 (b + 2)) (((x3 * (σ b 1)) + r2) - 1) fun v12 =>
(wrK (stN b) σ11 (b + 2) (((x3 * (σ b 1)) + r2) - 1) (v7 - (fX10_held r9 v12)) fun σ14 =>
rec2 σ14 x2 (x3 + 1)))))))))
set_option maxHeartbeats 4000000 in
theorem b_fX8_rainAndDry_2B {E : Ev} {l : Launch} {p : Program} {e : Env} {s : State} {m : MethodId} {args : Array Value} {below : List Frame} {meth : Method} {c : Code} {b : Nat} (hfb : fS b) (C : CX true E RX8 cX8_rainAndDry 6 none p s m args meth c) {sr : St} (rec2 : St → Int32 → Int32 → Option St) (hr2 : ∀ (σ : St) (x2 : Int32) (x3 : Int32), rec2 σ x2 x3 = some sr → GW true l (rmD 5) E 6 p e s m args below meth c (MQ below (QV true E sr s.heap.size) args s 0 0 (aW true E s.heap.size)) σ 2 [(0, .ref (ea E b)), (1, .ref (ea E 28)), (2, .int x2), (3, .int x3)] []) : ∀ (σ : St) (x2 : Int32) (x3 : Int32), fX8_rainAndDry_2B b rec2 σ x2 x3 = some sr → GW true l (rmD 5) E 6 p e s m args below meth c (MQ below (QV true E sr s.heap.size) args s 0 0 (aW true E s.heap.size)) σ 2 [(0, .ref (ea E b)), (1, .ref (ea E 28)), (2, .int x2), (3, .int x3)] [] := by
  intro σ x2 x3 hf H locs ls hP hS hl
  obtain ⟨hx, hb, hr, hml, hown, hts, hlocks, hK, hX, hj⟩ := id C
  unfold fX8_rainAndDry_2B at hf
  refine lv_iload_n hx hb dX8_rainAndDry_2 rfl (lv_at hl 3 rfl) ?_
  refine lv_aload_n hx hb dX8_rainAndDry_3 rfl (lv_at hl 0 rfl) ?_
  refine r_get (k := 0) (v := .int (σ b 0)) C hP (oS hfb) rfl iX8 (by decide) wm_t52 rfl rfl dX8_rainAndDry_4 ?_
  refine lv_icmp_ge (tgt := 76) hx hb dX8_rainAndDry_7 (by decide) (fun c1 => ?_) (fun c1 => ?_)
  · replace hf := it_t c1 hf
    cases hf
    exact r_vret C hP hS dX8_rainAndDry_76
  · replace hf := it_f c1 hf
    refine lv_aload_n hx hb dX8_rainAndDry_10 rfl (lv_at hl 0 rfl) ?_
    refine lv_iload_n hx hb dX8_rainAndDry_11 rfl (lv_at hl 3 rfl) ?_
    obtain ⟨r2, hc3, hf⟩ := cq_e hf
    refine r_cVi (n := 1) (As := [.int x3]) (rest := []) C (c_fX8_height hfb hj σ H.size x3 hc3) (oS hfb) rfl gv_RX8_79 (by decide +kernel) (rmD_le (by decide) (by decide)) rfl rfl (Nat.le_of_ble_eq_true rfl) dX8_rainAndDry_12 hP hS hl.1 (fun H locs hP hS => ?_)
    refine lv_istore (lv' := [(4, .int r2), (0, .ref (ea E b)), (1, .ref (ea E 28)), (2, .int x2), (3, .int x3)]) hx hb dX8_rainAndDry_15 hl (by decide) rfl (fun ls hl => ?_)
    refine lv_iload hx hb dX8_rainAndDry_17 (lv_at hl 0 rfl) ?_
    refine lv_if_le (tgt := 70) hx hb dX8_rainAndDry_19 (by decide) (fun c4 => ?_) (fun c4 => ?_)
    · replace hf := it_t c4 hf
      refine lv_iinc (v := (x3 + 1)) (lv' := [(3, .int (x3 + 1)), (4, .int r2), (0, .ref (ea E b)), (1, .ref (ea E 28)), (2, .int x2)]) hx hb dX8_rainAndDry_70 hl (k := 4) rfl rfl (by decide) rfl (fun ls hl => ?_)
      refine lv_goto (tgt := 2) hx hb dX8_rainAndDry_73 (by decide) ?_
      exact hr2 σ x2 (x3 + 1) hf H locs ls hP hS (lv_sub hl [2, 3, 4, 0] rfl)
    · replace hf := it_f c4 hf
      refine lv_iload_n hx hb dX8_rainAndDry_22 rfl (lv_at hl 4 rfl) ?_
      refine lv_aload_n hx hb dX8_rainAndDry_23 rfl (lv_at hl 1 rfl) ?_
      refine r_get (k := 1) (v := .int (σ b 1)) C hP (oS hfb) rfl iX8 (by decide) wm_t53 rfl rfl dX8_rainAndDry_24 ?_
      refine lv_imul hx hb dX8_rainAndDry_27 ?_
      refine lv_iload hx hb dX8_rainAndDry_28 (lv_at hl 0 rfl) ?_
      refine lv_iadd hx hb dX8_rainAndDry_30 ?_
      refine lv_iconst (v := 1) hx hb dX8_rainAndDry_31 (by decide) ?_
      refine lv_isub hx hb dX8_rainAndDry_32 ?_
      refine lv_istore (lv' := [(5, .int (((x3 * (σ b 1)) + r2) - 1)), (4, .int r2), (0, .ref (ea E b)), (1, .ref (ea E 28)), (2, .int x2), (3, .int x3)]) hx hb dX8_rainAndDry_33 hl (by decide) rfl (fun ls hl => ?_)
      refine lv_aload_n hx hb dX8_rainAndDry_35 rfl (lv_at hl 2 rfl) ?_
      refine lv_iload hx hb dX8_rainAndDry_36 (lv_at hl 0 rfl) ?_
      refine lv_iload_n hx hb dX8_rainAndDry_38 rfl (lv_at hl 4 rfl) ?_
      obtain ⟨σ6, hc5, hf⟩ := cv_e hf
      refine r_cVv (n := 2) (As := [.int (((x3 * (σ b 1)) + r2) - 1), .int x2]) (rest := []) C (c_fX8_pour hfb hj σ H.size (((x3 * (σ b 1)) + r2) - 1) x2 hc5) (oS hfb) rfl gv_RX8_82 (by decide +kernel) (rmD_le (by decide) (by decide)) rfl rfl (Nat.le_of_ble_eq_true rfl) dX8_rainAndDry_39 hP hS hl.1 (fun H locs hP hS => ?_)
      refine lv_aload_n hx hb dX8_rainAndDry_42 rfl (lv_at hl 2 rfl) ?_
      refine r_get (k := 4) (v := .ref (ea E (b + 2))) C hP (oS hfb) rfl iX8 (by decide) wm_t60 rfl rfl dX8_rainAndDry_43 ?_
      refine lv_iload hx hb dX8_rainAndDry_46 (lv_at hl 0 rfl) ?_
      refine lv_dup2_11 hx hb dX8_rainAndDry_48 rfl rfl ?_
      have h8 := (rdK_e hf).1
      refine r_ald C hP (aS_2 hfb) h8 dX8_rainAndDry_49 ?_
      refine lv_topi (fun v7 ev7 => ?_)
      replace hf := rdK_n ev7 hf
      refine lv_aload_n hx hb dX8_rainAndDry_50 rfl (lv_at hl 2 rfl) ?_
      refine lv_aload_n hx hb dX8_rainAndDry_51 rfl (lv_at hl 3 rfl) ?_
      refine lv_iconst (v := 1) hx hb dX8_rainAndDry_52 (by decide) ?_
      refine lv_iload hx hb dX8_rainAndDry_53 (lv_at hl 0 rfl) ?_
      obtain ⟨r9, σ11, hc10, hf⟩ := cb_e hf
      refine r_cVi (n := 3) (As := [.ref (ea E 28), .int 1, .int (((x3 * (σ b 1)) + r2) - 1)]) (rest := [.int v7, .int (((x3 * (σ b 1)) + r2) - 1), .ref (ea E (b + 2))]) C (c_fX8_lawOf hfb hj σ6 H.size 1 (((x3 * (σ b 1)) + r2) - 1) hc10) (oS hfb) rfl gv_RX8_86 (by decide +kernel) (rmD_le (by decide) (by decide)) rfl rfl (Nat.le_of_ble_eq_true rfl) dX8_rainAndDry_55 hP hS hl.1 (fun H locs hP hS => ?_)
      refine lv_aload_n hx hb dX8_rainAndDry_58 rfl (lv_at hl 2 rfl) ?_
      refine r_get (k := 4) (v := .ref (ea E (b + 2))) C hP (oS hfb) rfl iX8 (by decide) wm_t60 rfl rfl dX8_rainAndDry_59 ?_
      refine lv_iload hx hb dX8_rainAndDry_62 (lv_at hl 0 rfl) ?_
      have h13 := (rdK_e hf).1
      refine r_ald C hP (aS_2 hfb) h13 dX8_rainAndDry_64 ?_
      refine lv_topi (fun v12 ev12 => ?_)
      replace hf := rdK_n ev12 hf
      refine r_cNi (n := 2) (As := [.int r9, .int v12]) (rest := [.int v7, .int (((x3 * (σ b 1)) + r2) - 1), .ref (ea E (b + 2))]) (host := "SoupCargo") C (c_fX10_held hj σ11 H.size r9 v12) (by decide +kernel) wm_t696 wm_t1 wm_t695 (by decide +kernel) (rmD_le (by decide) (by decide)) rfl rfl (Nat.le_of_ble_eq_true rfl) dX8_rainAndDry_65 hP hS hl.1 (fun H locs hP hS => ?_)
      refine lv_isub hx hb dX8_rainAndDry_68 ?_
      obtain ⟨h15, σ14, eσ14, hf⟩ := wrK_e hf
      refine r_ast C hP hS (aS_2 hfb) h15 dX8_rainAndDry_69 (fun H locs hP hS => ?_)
      rw [← eσ14] at hP
      refine lv_iinc (v := (x3 + 1)) (lv' := [(3, .int (x3 + 1)), (5, .int (((x3 * (σ b 1)) + r2) - 1)), (4, .int r2), (0, .ref (ea E b)), (1, .ref (ea E 28)), (2, .int x2)]) hx hb dX8_rainAndDry_70 hl (k := 5) rfl rfl (by decide) rfl (fun ls hl => ?_)
      refine lv_goto (tgt := 2) hx hb dX8_rainAndDry_73 (by decide) ?_
      exact hr2 σ14 x2 (x3 + 1) hf H locs ls hP hS (lv_sub hl [3, 4, 5, 0] rfl)
def fX8_rainAndDry_2 (b : Nat) : Nat → St → Int32 → Int32 → Option St
  | 0 => fun _ _ _ => none
  | n + 1 => fun σ x2 x3 => fX8_rainAndDry_2B b (fX8_rainAndDry_2 b n) σ x2 x3
theorem b_fX8_rainAndDry_2 {E : Ev} {l : Launch} {p : Program} {e : Env} {s : State} {m : MethodId} {args : Array Value} {below : List Frame} {meth : Method} {c : Code} {b : Nat} (hfb : fS b) (C : CX true E RX8 cX8_rainAndDry 6 none p s m args meth c) {sr : St} : ∀ (n : Nat) (σ : St) (x2 : Int32) (x3 : Int32), fX8_rainAndDry_2 b n σ x2 x3 = some sr → GW true l (rmD 5) E 6 p e s m args below meth c (MQ below (QV true E sr s.heap.size) args s 0 0 (aW true E s.heap.size)) σ 2 [(0, .ref (ea E b)), (1, .ref (ea E 28)), (2, .int x2), (3, .int x3)] [] := by
  intro n
  induction n with
  | zero => intro σ x2 x3 hf; have hf : (none : Option _) = some _ := hf; cases hf
  | succ n ih => intro σ x2 x3 hf; exact b_fX8_rainAndDry_2B hfb C (fX8_rainAndDry_2 b n) ih σ x2 x3 hf
def fX8_rainAndDry (b : Nat) (σ : St) (a1 : Int32) : Option St :=
fX8_rainAndDry_2 b FU σ a1 0
set_option maxHeartbeats 4000000 in
theorem c_fX8_rainAndDry {E : Ev} {l : Launch} {b : Nat} (hfb : fS b) (hj : jW true E) (σ : St) (sz : Nat) (a1 : Int32) {sr : St} (hf : fX8_rainAndDry b σ a1 = some sr) : Met l yX8_rainAndDry (Cond.code yX8_rainAndDry cX8_rainAndDry 6 none :: gT) (rmD 5) (va_Pc [.ref (ea E b), .ref (ea E 28), .int a1] (preW true E σ sz)) (QV true E sr sz) 0 0 (aW true E sz) := by
  refine r_entry (QV true E sr) hj (by decide) [.ref (ea E b), .ref (ea E 28), .int a1] (Nat.le_of_ble_eq_true rfl) (fun p e s m args below meth c C => ?_)
  intro H locs ls hP hS hl
  have hl : lv_has ls 6 [(0, .ref (ea E b)), (1, .ref (ea E 28)), (2, .int a1)] := hl
  obtain ⟨hx, hb, hr, hml, hown, hts, hlocks, hK, hX, hj⟩ := id C
  unfold fX8_rainAndDry at hf
  refine lv_iconst (v := 0) hx hb dX8_rainAndDry_0 (by decide) ?_
  refine lv_istore_n (lv' := [(3, .int 0), (0, .ref (ea E b)), (1, .ref (ea E 28)), (2, .int a1)]) hx hb dX8_rainAndDry_1 rfl hl (by decide) rfl (fun ls hl => ?_)
  exact b_fX8_rainAndDry_2 hfb C FU σ a1 0 hf H locs ls hP hS (lv_sub hl [1, 2, 3, 0] rfl)
def fX8_sinkWater_19B (b : Nat) (rec2 : St → Int32 → Option St) (rec19 : St → Int32 → Int32 → Int32 → Option St) (σ : St) (x2 : Int32) (x3 : Int32) (x4 : Int32) : Option St :=
(if x3 ≤ x4 then
rec2 σ (x2 + 1)
else
(cb (fX8_lawOf b σ 0 ((x2 * (σ b 1)) + x4)) fun r2 σ4 =>
(rdK (stN b) (σ4 (b + 2)) ((x2 * (σ b 1)) + x4) fun v5 =>
(rdK (stN b) (σ4 (b + 2)) ((x2 * (σ b 1)) + x4) fun v7 =>
(wrK (stN b) σ4 (b + 2) ((x2 * (σ b 1)) + x4) (v7 - (fX10_held r2 v5)) fun σ9 =>
(if x4 = 0 then
(nmS (st_put σ9 b 7 ((σ9 b 7) + (fX10_held r2 v5))) fun σ14 =>
rec19 σ14 x2 x3 (x4 + 1))
else
(cv (fX8_pour b σ9 (((x2 * (σ b 1)) + x4) - 1) (fX10_held r2 v5)) fun σ13 =>
rec19 σ13 x2 x3 (x4 + 1))))))))
set_option maxHeartbeats 4000000 in
theorem b_fX8_sinkWater_19B {E : Ev} {l : Launch} {p : Program} {e : Env} {s : State} {m : MethodId} {args : Array Value} {below : List Frame} {meth : Method} {c : Code} {b : Nat} (hfb : fS b) (C : CX true E RX8 cX8_sinkWater 7 none p s m args meth c) {sr : St} (rec2 : St → Int32 → Option St) (hr2 : ∀ (σ : St) (x2 : Int32), rec2 σ x2 = some sr → GW true l (rmD 5) E 7 p e s m args below meth c (MQ below (QV true E sr s.heap.size) args s 0 0 (aW true E s.heap.size)) σ 2 [(0, .ref (ea E b)), (1, .ref (ea E 28)), (2, .int x2)] []) (rec19 : St → Int32 → Int32 → Int32 → Option St) (hr19 : ∀ (σ : St) (x2 : Int32) (x3 : Int32) (x4 : Int32), rec19 σ x2 x3 x4 = some sr → GW true l (rmD 5) E 7 p e s m args below meth c (MQ below (QV true E sr s.heap.size) args s 0 0 (aW true E s.heap.size)) σ 19 [(0, .ref (ea E b)), (1, .ref (ea E 28)), (2, .int x2), (3, .int x3), (4, .int x4)] []) : ∀ (σ : St) (x2 : Int32) (x3 : Int32) (x4 : Int32), fX8_sinkWater_19B b rec2 rec19 σ x2 x3 x4 = some sr → GW true l (rmD 5) E 7 p e s m args below meth c (MQ below (QV true E sr s.heap.size) args s 0 0 (aW true E s.heap.size)) σ 19 [(0, .ref (ea E b)), (1, .ref (ea E 28)), (2, .int x2), (3, .int x3), (4, .int x4)] [] := by
  intro σ x2 x3 x4 hf H locs ls hP hS hl
  obtain ⟨hx, hb, hr, hml, hown, hts, hlocks, hK, hX, hj⟩ := id C
  unfold fX8_sinkWater_19B at hf
  refine lv_iload hx hb dX8_sinkWater_19 (lv_at hl 4 rfl) ?_
  refine lv_iload_n hx hb dX8_sinkWater_21 rfl (lv_at hl 3 rfl) ?_
  refine lv_icmp_ge (tgt := 103) hx hb dX8_sinkWater_22 (by decide) (fun c1 => ?_) (fun c1 => ?_)
  · replace hf := it_t c1 hf
    refine lv_iinc (v := (x2 + 1)) (lv' := [(2, .int (x2 + 1)), (0, .ref (ea E b)), (1, .ref (ea E 28)), (3, .int x3), (4, .int x4)]) hx hb dX8_sinkWater_103 hl (k := 2) rfl rfl (by decide) rfl (fun ls hl => ?_)
    refine lv_goto (tgt := 2) hx hb dX8_sinkWater_106 (by decide) ?_
    exact hr2 σ (x2 + 1) hf H locs ls hP hS (lv_sub hl [1, 2, 0] rfl)
  · replace hf := it_f c1 hf
    refine lv_iload_n hx hb dX8_sinkWater_25 rfl (lv_at hl 2 rfl) ?_
    refine lv_aload_n hx hb dX8_sinkWater_26 rfl (lv_at hl 0 rfl) ?_
    refine r_get (k := 1) (v := .int (σ b 1)) C hP (oS hfb) rfl iX8 (by decide) wm_t53 rfl rfl dX8_sinkWater_27 ?_
    refine lv_imul hx hb dX8_sinkWater_30 ?_
    refine lv_iload hx hb dX8_sinkWater_31 (lv_at hl 4 rfl) ?_
    refine lv_iadd hx hb dX8_sinkWater_33 ?_
    refine lv_istore (lv' := [(5, .int ((x2 * (σ b 1)) + x4)), (0, .ref (ea E b)), (1, .ref (ea E 28)), (2, .int x2), (3, .int x3), (4, .int x4)]) hx hb dX8_sinkWater_34 hl (by decide) rfl (fun ls hl => ?_)
    refine lv_aload_n hx hb dX8_sinkWater_36 rfl (lv_at hl 1 rfl) ?_
    refine lv_aload_n hx hb dX8_sinkWater_37 rfl (lv_at hl 2 rfl) ?_
    refine lv_iconst (v := 0) hx hb dX8_sinkWater_38 (by decide) ?_
    refine lv_iload hx hb dX8_sinkWater_39 (lv_at hl 0 rfl) ?_
    obtain ⟨r2, σ4, hc3, hf⟩ := cb_e hf
    refine r_cVi (n := 3) (As := [.ref (ea E 28), .int 0, .int ((x2 * (σ b 1)) + x4)]) (rest := []) C (c_fX8_lawOf hfb hj σ H.size 0 ((x2 * (σ b 1)) + x4) hc3) (oS hfb) rfl gv_RX8_86 (by decide +kernel) (rmD_le (by decide) (by decide)) rfl rfl (Nat.le_of_ble_eq_true rfl) dX8_sinkWater_41 hP hS hl.1 (fun H locs hP hS => ?_)
    refine lv_aload_n hx hb dX8_sinkWater_44 rfl (lv_at hl 1 rfl) ?_
    refine r_get (k := 4) (v := .ref (ea E (b + 2))) C hP (oS hfb) rfl iX8 (by decide) wm_t60 rfl rfl dX8_sinkWater_45 ?_
    refine lv_iload hx hb dX8_sinkWater_48 (lv_at hl 0 rfl) ?_
    have h6 := (rdK_e hf).1
    refine r_ald C hP (aS_2 hfb) h6 dX8_sinkWater_50 ?_
    refine lv_topi (fun v5 ev5 => ?_)
    replace hf := rdK_n ev5 hf
    refine r_cNi (n := 2) (As := [.int r2, .int v5]) (rest := []) (host := "SoupCargo") C (c_fX10_held hj σ4 H.size r2 v5) (by decide +kernel) wm_t696 wm_t1 wm_t695 (by decide +kernel) (rmD_le (by decide) (by decide)) rfl rfl (Nat.le_of_ble_eq_true rfl) dX8_sinkWater_51 hP hS hl.1 (fun H locs hP hS => ?_)
    refine lv_istore (lv' := [(6, .int (fX10_held r2 v5)), (5, .int ((x2 * (σ b 1)) + x4)), (0, .ref (ea E b)), (1, .ref (ea E 28)), (2, .int x2), (3, .int x3), (4, .int x4)]) hx hb dX8_sinkWater_54 hl (by decide) rfl (fun ls hl => ?_)
    refine lv_aload_n hx hb dX8_sinkWater_56 rfl (lv_at hl 2 rfl) ?_
    refine r_get (k := 4) (v := .ref (ea E (b + 2))) C hP (oS hfb) rfl iX8 (by decide) wm_t60 rfl rfl dX8_sinkWater_57 ?_
    refine lv_iload hx hb dX8_sinkWater_60 (lv_at hl 1 rfl) ?_
    refine lv_dup2_11 hx hb dX8_sinkWater_62 rfl rfl ?_
    have h8 := (rdK_e hf).1
    refine r_ald C hP (aS_2 hfb) h8 dX8_sinkWater_63 ?_
    refine lv_topi (fun v7 ev7 => ?_)
    replace hf := rdK_n ev7 hf
    refine lv_iload hx hb dX8_sinkWater_64 (lv_at hl 0 rfl) ?_
    refine lv_isub hx hb dX8_sinkWater_66 ?_
    obtain ⟨h10, σ9, eσ9, hf⟩ := wrK_e hf
    refine r_ast C hP hS (aS_2 hfb) h10 dX8_sinkWater_67 (fun H locs hP hS => ?_)
    rw [← eσ9] at hP
    refine lv_iload hx hb dX8_sinkWater_68 (lv_at hl 6 rfl) ?_
    refine lv_if_ne (tgt := 87) hx hb dX8_sinkWater_70 (by decide) (fun c11 => ?_) (fun c11 => ?_)
    · replace hf := it_f c11 hf
      refine lv_aload_n hx hb dX8_sinkWater_87 rfl (lv_at hl 2 rfl) ?_
      refine lv_iload hx hb dX8_sinkWater_88 (lv_at hl 1 rfl) ?_
      refine lv_iconst (v := 1) hx hb dX8_sinkWater_90 (by decide) ?_
      refine lv_isub hx hb dX8_sinkWater_91 ?_
      refine lv_iload hx hb dX8_sinkWater_92 (lv_at hl 0 rfl) ?_
      obtain ⟨σ13, hc12, hf⟩ := cv_e hf
      refine r_cVv (n := 2) (As := [.int (((x2 * (σ b 1)) + x4) - 1), .int (fX10_held r2 v5)]) (rest := []) C (c_fX8_pour hfb hj σ9 H.size (((x2 * (σ b 1)) + x4) - 1) (fX10_held r2 v5) hc12) (oS hfb) rfl gv_RX8_82 (by decide +kernel) (rmD_le (by decide) (by decide)) rfl rfl (Nat.le_of_ble_eq_true rfl) dX8_sinkWater_94 hP hS hl.1 (fun H locs hP hS => ?_)
      refine lv_iinc (v := (x4 + 1)) (lv' := [(4, .int (x4 + 1)), (6, .int (fX10_held r2 v5)), (5, .int ((x2 * (σ b 1)) + x4)), (0, .ref (ea E b)), (1, .ref (ea E 28)), (2, .int x2), (3, .int x3)]) hx hb dX8_sinkWater_97 hl (k := 6) rfl rfl (by decide) rfl (fun ls hl => ?_)
      refine lv_goto (tgt := 19) hx hb dX8_sinkWater_100 (by decide) ?_
      exact hr19 σ13 x2 x3 (x4 + 1) hf H locs ls hP hS (lv_sub hl [3, 4, 5, 6, 0] rfl)
    · replace hf := it_t c11 hf
      refine lv_aload_n hx hb dX8_sinkWater_73 rfl (lv_at hl 2 rfl) ?_
      refine lv_dup hx hb dX8_sinkWater_74 rfl ?_
      refine r_get (k := 7) (v := .int (σ9 b 7)) C hP (oS hfb) rfl iX8 (by decide) wm_t67 rfl rfl dX8_sinkWater_75 ?_
      refine lv_iload hx hb dX8_sinkWater_78 (lv_at hl 0 rfl) ?_
      refine lv_iadd hx hb dX8_sinkWater_80 ?_
      refine r_put (k := 7) (x := ((σ9 b 7) + (fX10_held r2 v5))) C hP hS tyX8 tyX8_ok nmX8 (oS hfb) rfl iX8 (by decide) wm_t67 rfl rfl sS_7 rfl rfl (Nat.le_of_ble_eq_true rfl) dX8_sinkWater_81 (fun H locs hP hS => ?_)
      obtain ⟨σ14, eσ14, hf⟩ := nmS_e hf
      rw [← eσ14] at hP
      refine lv_goto (tgt := 97) hx hb dX8_sinkWater_84 (by decide) ?_
      refine lv_iinc (v := (x4 + 1)) (lv' := [(4, .int (x4 + 1)), (6, .int (fX10_held r2 v5)), (5, .int ((x2 * (σ b 1)) + x4)), (0, .ref (ea E b)), (1, .ref (ea E 28)), (2, .int x2), (3, .int x3)]) hx hb dX8_sinkWater_97 hl (k := 6) rfl rfl (by decide) rfl (fun ls hl => ?_)
      refine lv_goto (tgt := 19) hx hb dX8_sinkWater_100 (by decide) ?_
      exact hr19 σ14 x2 x3 (x4 + 1) hf H locs ls hP hS (lv_sub hl [3, 4, 5, 6, 0] rfl)
def fX8_sinkWater_19 (b : Nat) (rec2 : St → Int32 → Option St) : Nat → St → Int32 → Int32 → Int32 → Option St
  | 0 => fun _ _ _ _ => none
  | n + 1 => fun σ x2 x3 x4 => fX8_sinkWater_19B b rec2 (fX8_sinkWater_19 b rec2 n) σ x2 x3 x4
theorem b_fX8_sinkWater_19 {E : Ev} {l : Launch} {p : Program} {e : Env} {s : State} {m : MethodId} {args : Array Value} {below : List Frame} {meth : Method} {c : Code} {b : Nat} (hfb : fS b) (C : CX true E RX8 cX8_sinkWater 7 none p s m args meth c) {sr : St} (rec2 : St → Int32 → Option St) (hr2 : ∀ (σ : St) (x2 : Int32), rec2 σ x2 = some sr → GW true l (rmD 5) E 7 p e s m args below meth c (MQ below (QV true E sr s.heap.size) args s 0 0 (aW true E s.heap.size)) σ 2 [(0, .ref (ea E b)), (1, .ref (ea E 28)), (2, .int x2)] []) : ∀ (n : Nat) (σ : St) (x2 : Int32) (x3 : Int32) (x4 : Int32), fX8_sinkWater_19 b rec2 n σ x2 x3 x4 = some sr → GW true l (rmD 5) E 7 p e s m args below meth c (MQ below (QV true E sr s.heap.size) args s 0 0 (aW true E s.heap.size)) σ 19 [(0, .ref (ea E b)), (1, .ref (ea E 28)), (2, .int x2), (3, .int x3), (4, .int x4)] [] := by
  intro n
  induction n with
  | zero => intro σ x2 x3 x4 hf; have hf : (none : Option _) = some _ := hf; cases hf
  | succ n ih => intro σ x2 x3 x4 hf; exact b_fX8_sinkWater_19B hfb C rec2 hr2 (fX8_sinkWater_19 b rec2 n) ih σ x2 x3 x4 hf
def fX8_sinkWater_2B (b : Nat) (rec2 : St → Int32 → Option St) (σ : St) (x2 : Int32) : Option St :=
(if (σ b 0) ≤ x2 then
some σ
else
(cq (fX8_height b σ x2) fun r2 =>
fX8_sinkWater_19 b rec2 FU σ x2 r2 0))
set_option maxHeartbeats 4000000 in
theorem b_fX8_sinkWater_2B {E : Ev} {l : Launch} {p : Program} {e : Env} {s : State} {m : MethodId} {args : Array Value} {below : List Frame} {meth : Method} {c : Code} {b : Nat} (hfb : fS b) (C : CX true E RX8 cX8_sinkWater 7 none p s m args meth c) {sr : St} (rec2 : St → Int32 → Option St) (hr2 : ∀ (σ : St) (x2 : Int32), rec2 σ x2 = some sr → GW true l (rmD 5) E 7 p e s m args below meth c (MQ below (QV true E sr s.heap.size) args s 0 0 (aW true E s.heap.size)) σ 2 [(0, .ref (ea E b)), (1, .ref (ea E 28)), (2, .int x2)] []) : ∀ (σ : St) (x2 : Int32), fX8_sinkWater_2B b rec2 σ x2 = some sr → GW true l (rmD 5) E 7 p e s m args below meth c (MQ below (QV true E sr s.heap.size) args s 0 0 (aW true E s.heap.size)) σ 2 [(0, .ref (ea E b)), (1, .ref (ea E 28)), (2, .int x2)] [] := by
  intro σ x2 hf H locs ls hP hS hl
  obtain ⟨hx, hb, hr, hml, hown, hts, hlocks, hK, hX, hj⟩ := id C
  unfold fX8_sinkWater_2B at hf
  refine lv_iload_n hx hb dX8_sinkWater_2 rfl (lv_at hl 2 rfl) ?_
  refine lv_aload_n hx hb dX8_sinkWater_3 rfl (lv_at hl 0 rfl) ?_
  refine r_get (k := 0) (v := .int (σ b 0)) C hP (oS hfb) rfl iX8 (by decide) wm_t52 rfl rfl dX8_sinkWater_4 ?_
  refine lv_icmp_ge (tgt := 109) hx hb dX8_sinkWater_7 (by decide) (fun c1 => ?_) (fun c1 => ?_)
  · replace hf := it_t c1 hf
    cases hf
    exact r_vret C hP hS dX8_sinkWater_109
  · replace hf := it_f c1 hf
    refine lv_aload_n hx hb dX8_sinkWater_10 rfl (lv_at hl 0 rfl) ?_
    refine lv_iload_n hx hb dX8_sinkWater_11 rfl (lv_at hl 2 rfl) ?_
    obtain ⟨r2, hc3, hf⟩ := cq_e hf
    refine r_cVi (n := 1) (As := [.int x2]) (rest := []) C (c_fX8_height hfb hj σ H.size x2 hc3) (oS hfb) rfl gv_RX8_79 (by decide +kernel) (rmD_le (by decide) (by decide)) rfl rfl (Nat.le_of_ble_eq_true rfl) dX8_sinkWater_12 hP hS hl.1 (fun H locs hP hS => ?_)
    refine lv_istore_n (lv' := [(3, .int r2), (0, .ref (ea E b)), (1, .ref (ea E 28)), (2, .int x2)]) hx hb dX8_sinkWater_15 rfl hl (by decide) rfl (fun ls hl => ?_)
    refine lv_iconst (v := 0) hx hb dX8_sinkWater_16 (by decide) ?_
    refine lv_istore (lv' := [(4, .int 0), (3, .int r2), (0, .ref (ea E b)), (1, .ref (ea E 28)), (2, .int x2)]) hx hb dX8_sinkWater_17 hl (by decide) rfl (fun ls hl => ?_)
    exact b_fX8_sinkWater_19 hfb C rec2 hr2 FU σ x2 r2 0 hf H locs ls hP hS (lv_sub hl [2, 3, 4, 1, 0] rfl)
def fX8_sinkWater_2 (b : Nat) : Nat → St → Int32 → Option St
  | 0 => fun _ _ => none
  | n + 1 => fun σ x2 => fX8_sinkWater_2B b (fX8_sinkWater_2 b n) σ x2
theorem b_fX8_sinkWater_2 {E : Ev} {l : Launch} {p : Program} {e : Env} {s : State} {m : MethodId} {args : Array Value} {below : List Frame} {meth : Method} {c : Code} {b : Nat} (hfb : fS b) (C : CX true E RX8 cX8_sinkWater 7 none p s m args meth c) {sr : St} : ∀ (n : Nat) (σ : St) (x2 : Int32), fX8_sinkWater_2 b n σ x2 = some sr → GW true l (rmD 5) E 7 p e s m args below meth c (MQ below (QV true E sr s.heap.size) args s 0 0 (aW true E s.heap.size)) σ 2 [(0, .ref (ea E b)), (1, .ref (ea E 28)), (2, .int x2)] [] := by
  intro n
  induction n with
  | zero => intro σ x2 hf; have hf : (none : Option _) = some _ := hf; cases hf
  | succ n ih => intro σ x2 hf; exact b_fX8_sinkWater_2B hfb C (fX8_sinkWater_2 b n) ih σ x2 hf
def fX8_sinkWater (b : Nat) (σ : St) : Option St :=
fX8_sinkWater_2 b FU σ 0
set_option maxHeartbeats 4000000 in
theorem c_fX8_sinkWater {E : Ev} {l : Launch} {b : Nat} (hfb : fS b) (hj : jW true E) (σ : St) (sz : Nat) {sr : St} (hf : fX8_sinkWater b σ = some sr) : Met l yX8_sinkWater (Cond.code yX8_sinkWater cX8_sinkWater 7 none :: gT) (rmD 5) (va_Pc [.ref (ea E b), .ref (ea E 28)] (preW true E σ sz)) (QV true E sr sz) 0 0 (aW true E sz) := by
  refine r_entry (QV true E sr) hj (by decide) [.ref (ea E b), .ref (ea E 28)] (Nat.le_of_ble_eq_true rfl) (fun p e s m args below meth c C => ?_)
  intro H locs ls hP hS hl
  have hl : lv_has ls 7 [(0, .ref (ea E b)), (1, .ref (ea E 28))] := hl
  obtain ⟨hx, hb, hr, hml, hown, hts, hlocks, hK, hX, hj⟩ := id C
  unfold fX8_sinkWater at hf
  refine lv_iconst (v := 0) hx hb dX8_sinkWater_0 (by decide) ?_
  refine lv_istore_n (lv' := [(2, .int 0), (0, .ref (ea E b)), (1, .ref (ea E 28))]) hx hb dX8_sinkWater_1 rfl hl (by decide) rfl (fun ls hl => ?_)
  exact b_fX8_sinkWater_2 hfb C FU σ 0 hf H locs ls hP hS (lv_sub hl [1, 2, 0] rfl)
def fX8_turnToSoup_31 (b : Nat) (rec2 : St → Int32 → Option St) (σ : St) (x2 : Int32) (y0 : Int32) (y1 : Int32) : Option St :=
(wrK (stN b) σ (b + 4) y1 y0 fun σ1 =>
rec2 σ1 (x2 + 1))
set_option maxHeartbeats 4000000 in
theorem b_fX8_turnToSoup_31 {E : Ev} {l : Launch} {p : Program} {e : Env} {s : State} {m : MethodId} {args : Array Value} {below : List Frame} {meth : Method} {c : Code} {b : Nat} (hfb : fS b) (C : CX true E RX8 cX8_turnToSoup 3 none p s m args meth c) {sr : St} (rec2 : St → Int32 → Option St) (hr2 : ∀ (σ : St) (x2 : Int32), rec2 σ x2 = some sr → GW true l (rmD 5) E 3 p e s m args below meth c (MQ below (QV true E sr s.heap.size) args s 0 0 (aW true E s.heap.size)) σ 2 [(0, .ref (ea E b)), (1, .ref (ea E 28)), (2, .int x2)] []) : ∀ (σ : St) (x2 : Int32) (y0 : Int32) (y1 : Int32), fX8_turnToSoup_31 b rec2 σ x2 y0 y1 = some sr → GW true l (rmD 5) E 3 p e s m args below meth c (MQ below (QV true E sr s.heap.size) args s 0 0 (aW true E s.heap.size)) σ 31 [(0, .ref (ea E b)), (1, .ref (ea E 28)), (2, .int x2)] [.int y0, .int y1, .ref (ea E (b + 4))] := by
  intro σ x2 y0 y1 hf H locs ls hP hS hl
  obtain ⟨hx, hb, hr, hml, hown, hts, hlocks, hK, hX, hj⟩ := id C
  unfold fX8_turnToSoup_31 at hf
  obtain ⟨h2, σ1, eσ1, hf⟩ := wrK_e hf
  refine r_ast C hP hS (aS_4 hfb) h2 dX8_turnToSoup_31 (fun H locs hP hS => ?_)
  rw [← eσ1] at hP
  refine lv_iinc (v := (x2 + 1)) (lv' := [(2, .int (x2 + 1)), (0, .ref (ea E b)), (1, .ref (ea E 28))]) hx hb dX8_turnToSoup_32 hl (k := 2) rfl rfl (by decide) rfl (fun ls hl => ?_)
  refine lv_goto (tgt := 2) hx hb dX8_turnToSoup_35 (by decide) ?_
  exact hr2 σ1 (x2 + 1) hf H locs ls hP hS (lv_sub hl [1, 2, 0] rfl)
def fX8_turnToSoup_2B (b : Nat) (rec2 : St → Int32 → Option St) (σ : St) (x2 : Int32) : Option St :=
(if (nI (stN b)) ≤ x2 then
some σ
else
(cb (fX8_lawOf b σ 2 x2) fun r2 σ4 =>
(if r2 ≤ 0 then
fX8_turnToSoup_31 b rec2 σ4 x2 0 x2
else
fX8_turnToSoup_31 b rec2 σ4 x2 1 x2)))
set_option maxHeartbeats 4000000 in
theorem b_fX8_turnToSoup_2B {E : Ev} {l : Launch} {p : Program} {e : Env} {s : State} {m : MethodId} {args : Array Value} {below : List Frame} {meth : Method} {c : Code} {b : Nat} (hfb : fS b) (C : CX true E RX8 cX8_turnToSoup 3 none p s m args meth c) {sr : St} (rec2 : St → Int32 → Option St) (hr2 : ∀ (σ : St) (x2 : Int32), rec2 σ x2 = some sr → GW true l (rmD 5) E 3 p e s m args below meth c (MQ below (QV true E sr s.heap.size) args s 0 0 (aW true E s.heap.size)) σ 2 [(0, .ref (ea E b)), (1, .ref (ea E 28)), (2, .int x2)] []) : ∀ (σ : St) (x2 : Int32), fX8_turnToSoup_2B b rec2 σ x2 = some sr → GW true l (rmD 5) E 3 p e s m args below meth c (MQ below (QV true E sr s.heap.size) args s 0 0 (aW true E s.heap.size)) σ 2 [(0, .ref (ea E b)), (1, .ref (ea E 28)), (2, .int x2)] [] := by
  intro σ x2 hf H locs ls hP hS hl
  obtain ⟨hx, hb, hr, hml, hown, hts, hlocks, hK, hX, hj⟩ := id C
  unfold fX8_turnToSoup_2B at hf
  refine lv_iload_n hx hb dX8_turnToSoup_2 rfl (lv_at hl 2 rfl) ?_
  refine lv_aload_n hx hb dX8_turnToSoup_3 rfl (lv_at hl 0 rfl) ?_
  refine r_get (k := 3) (v := .ref (ea E (b + 1))) C hP (oS hfb) rfl iX8 (by decide) wm_t55 rfl rfl dX8_turnToSoup_4 ?_
  refine r_alen (v := (nI (stN b))) C hP (aS_1 hfb) rfl dX8_turnToSoup_7 ?_
  refine lv_icmp_ge (tgt := 38) hx hb dX8_turnToSoup_8 (by decide) (fun c1 => ?_) (fun c1 => ?_)
  · replace hf := it_t c1 hf
    cases hf
    exact r_vret C hP hS dX8_turnToSoup_38
  · replace hf := it_f c1 hf
    refine lv_aload_n hx hb dX8_turnToSoup_11 rfl (lv_at hl 0 rfl) ?_
    refine r_get (k := 6) (v := .ref (ea E (b + 4))) C hP (oS hfb) rfl iX8 (by decide) wm_t65 rfl rfl dX8_turnToSoup_12 ?_
    refine lv_iload_n hx hb dX8_turnToSoup_15 rfl (lv_at hl 2 rfl) ?_
    refine lv_aload_n hx hb dX8_turnToSoup_16 rfl (lv_at hl 0 rfl) ?_
    refine lv_aload_n hx hb dX8_turnToSoup_17 rfl (lv_at hl 1 rfl) ?_
    refine lv_iconst (v := 2) hx hb dX8_turnToSoup_18 (by decide) ?_
    refine lv_iload_n hx hb dX8_turnToSoup_19 rfl (lv_at hl 2 rfl) ?_
    obtain ⟨r2, σ4, hc3, hf⟩ := cb_e hf
    refine r_cVi (n := 3) (As := [.ref (ea E 28), .int 2, .int x2]) (rest := [.int x2, .ref (ea E (b + 4))]) C (c_fX8_lawOf hfb hj σ H.size 2 x2 hc3) (oS hfb) rfl gv_RX8_86 (by decide +kernel) (rmD_le (by decide) (by decide)) rfl rfl (Nat.le_of_ble_eq_true rfl) dX8_turnToSoup_20 hP hS hl.1 (fun H locs hP hS => ?_)
    refine lv_if_le (tgt := 30) hx hb dX8_turnToSoup_23 (by decide) (fun c5 => ?_) (fun c5 => ?_)
    · replace hf := it_t c5 hf
      refine lv_iconst (v := 0) hx hb dX8_turnToSoup_30 (by decide) ?_
      exact b_fX8_turnToSoup_31 hfb C rec2 hr2 σ4 x2 0 x2 hf H locs ls hP hS (lv_sub hl [0, 1, 2] rfl)
    · replace hf := it_f c5 hf
      refine lv_iconst (v := 1) hx hb dX8_turnToSoup_26 (by decide) ?_
      refine lv_goto (tgt := 31) hx hb dX8_turnToSoup_27 (by decide) ?_
      exact b_fX8_turnToSoup_31 hfb C rec2 hr2 σ4 x2 1 x2 hf H locs ls hP hS (lv_sub hl [0, 1, 2] rfl)
def fX8_turnToSoup_2 (b : Nat) : Nat → St → Int32 → Option St
  | 0 => fun _ _ => none
  | n + 1 => fun σ x2 => fX8_turnToSoup_2B b (fX8_turnToSoup_2 b n) σ x2
theorem b_fX8_turnToSoup_2 {E : Ev} {l : Launch} {p : Program} {e : Env} {s : State} {m : MethodId} {args : Array Value} {below : List Frame} {meth : Method} {c : Code} {b : Nat} (hfb : fS b) (C : CX true E RX8 cX8_turnToSoup 3 none p s m args meth c) {sr : St} : ∀ (n : Nat) (σ : St) (x2 : Int32), fX8_turnToSoup_2 b n σ x2 = some sr → GW true l (rmD 5) E 3 p e s m args below meth c (MQ below (QV true E sr s.heap.size) args s 0 0 (aW true E s.heap.size)) σ 2 [(0, .ref (ea E b)), (1, .ref (ea E 28)), (2, .int x2)] [] := by
  intro n
  induction n with
  | zero => intro σ x2 hf; have hf : (none : Option _) = some _ := hf; cases hf
  | succ n ih => intro σ x2 hf; exact b_fX8_turnToSoup_2B hfb C (fX8_turnToSoup_2 b n) ih σ x2 hf
def fX8_turnToSoup (b : Nat) (σ : St) : Option St :=
fX8_turnToSoup_2 b FU σ 0
set_option maxHeartbeats 4000000 in
theorem c_fX8_turnToSoup {E : Ev} {l : Launch} {b : Nat} (hfb : fS b) (hj : jW true E) (σ : St) (sz : Nat) {sr : St} (hf : fX8_turnToSoup b σ = some sr) : Met l yX8_turnToSoup (Cond.code yX8_turnToSoup cX8_turnToSoup 3 none :: gT) (rmD 5) (va_Pc [.ref (ea E b), .ref (ea E 28)] (preW true E σ sz)) (QV true E sr sz) 0 0 (aW true E sz) := by
  refine r_entry (QV true E sr) hj (by decide) [.ref (ea E b), .ref (ea E 28)] (Nat.le_of_ble_eq_true rfl) (fun p e s m args below meth c C => ?_)
  intro H locs ls hP hS hl
  have hl : lv_has ls 3 [(0, .ref (ea E b)), (1, .ref (ea E 28))] := hl
  obtain ⟨hx, hb, hr, hml, hown, hts, hlocks, hK, hX, hj⟩ := id C
  unfold fX8_turnToSoup at hf
  refine lv_iconst (v := 0) hx hb dX8_turnToSoup_0 (by decide) ?_
  refine lv_istore_n (lv' := [(2, .int 0), (0, .ref (ea E b)), (1, .ref (ea E 28))]) hx hb dX8_turnToSoup_1 rfl hl (by decide) rfl (fun ls hl => ?_)
  exact b_fX8_turnToSoup_2 hfb C FU σ 0 hf H locs ls hP hS (lv_sub hl [1, 2, 0] rfl)
def fX10_told (σ : St) (a0 : Int32) (a1 : Int32) (a2 : Int32) (a3 : Int32) (a4 : Int32) : Option (Int32 × St) :=
(if (fX10_cellOf a1 a2 a3 a4) = (-1) then
some ((-1000000), σ)
else
(if (fX10_within a0 4) = 0 then
some ((-1000000), σ)
else
(cq (fX7_rainAt σ (σ 0 12)) fun r3 =>
(cv (fX2_setTime σ r3 ((σ 0 12) - (σ 0 12) / 24 * 24)) fun σ6 =>
(cb (fX8_lawOf (fX10_stacksOf a1) σ6 a0 (fX10_cellOf a1 a2 a3 a4)) fun r7 σ9 =>
some (r7, σ9))))))
set_option maxHeartbeats 4000000 in
theorem c_fX10_told {E : Ev} {l : Launch} (hj : jW true E) (σ : St) (sz : Nat) (a0 : Int32) (a1 : Int32) (a2 : Int32) (a3 : Int32) (a4 : Int32) {rr : Int32} {sr : St} (hf : fX10_told σ a0 a1 a2 a3 a4 = some (rr, sr)) : Met l yX10_told (Cond.code yX10_told cX10_told 8 (some .int) :: gT) (rmD 5) (va_Pc [.ref (ea E 0), .int a0, .int a1, .int a2, .int a3, .int a4] (preW true E σ sz)) (QI true E rr sr sz) 0 0 (aW true E sz) := by
  refine r_entry (QI true E rr sr) hj (by decide) [.ref (ea E 0), .int a0, .int a1, .int a2, .int a3, .int a4] (Nat.le_of_ble_eq_true rfl) (fun p e s m args below meth c C => ?_)
  intro H locs ls hP hS hl
  have hl : lv_has ls 8 [(0, .ref (ea E 0)), (1, .int a0), (2, .int a1), (3, .int a2), (4, .int a3), (5, .int a4)] := hl
  obtain ⟨hx, hb, hr, hml, hown, hts, hlocks, hK, hX, hj⟩ := id C
  unfold fX10_told at hf
  refine lv_aload_n hx hb dX10_told_0 rfl (lv_at hl 0 rfl) ?_
  refine lv_iload_n hx hb dX10_told_1 rfl (lv_at hl 2 rfl) ?_
  refine r_cVr (n := 1) (As := [.int a1]) (rest := []) C (c_fX10_stacksOf hj σ H.size a1) oC_0 rfl gv_RX10_110 (by decide +kernel) (rmD_le (by decide) (by decide)) rfl rfl (Nat.le_of_ble_eq_true rfl) dX10_told_2 hP hS hl.1 (fun H locs hP hS => ?_)
  refine lv_astore (lv' := [(6, .ref (ea E (fX10_stacksOf a1))), (0, .ref (ea E 0)), (1, .int a0), (2, .int a1), (3, .int a2), (4, .int a3), (5, .int a4)]) hx hb dX10_told_5 hl (by decide) rfl (fun ls hl => ?_)
  refine lv_iload_n hx hb dX10_told_7 rfl (lv_at hl 3 rfl) ?_
  refine lv_iload_n hx hb dX10_told_8 rfl (lv_at hl 4 rfl) ?_
  refine lv_iload hx hb dX10_told_9 (lv_at hl 5 rfl) ?_
  refine lv_iload hx hb dX10_told_11 (lv_at hl 6 rfl) ?_
  refine r_cSi (n := 4) (As := [.int a1, .int a2, .int a3, .int a4]) (rest := []) C (c_fX10_cellOf hj σ H.size a1 a2 a3 a4) gs_RX10_114 (by decide +kernel) (rmD_le (by decide) (by decide)) rfl rfl (Nat.le_of_ble_eq_true rfl) dX10_told_13 hP hS hl.1 (fun H locs hP hS => ?_)
  refine lv_istore (lv' := [(7, .int (fX10_cellOf a1 a2 a3 a4)), (6, .ref (ea E (fX10_stacksOf a1))), (0, .ref (ea E 0)), (1, .int a0), (2, .int a1), (3, .int a2), (4, .int a3), (5, .int a4)]) hx hb dX10_told_16 hl (by decide) rfl (fun ls hl => ?_)
  refine lv_iload hx hb dX10_told_18 (lv_at hl 0 rfl) ?_
  refine lv_iconst (v := (-1)) hx hb dX10_told_20 (by decide) ?_
  refine lv_icmp_eq (tgt := 32) hx hb dX10_told_21 (by decide) (fun c1 => ?_) (fun c1 => ?_)
  · replace hf := it_t c1 hf
    refine lv_ldc (v := (-1000000)) hx hb hown (hts _ wm_t803) dX10_told_32 ?_
    cases hf
    exact r_iret C hP hS dX10_told_34
  · replace hf := it_f c1 hf
    refine lv_iload_n hx hb dX10_told_24 rfl (lv_at hl 3 rfl) ?_
    refine lv_iconst (v := 4) hx hb dX10_told_25 (by decide) ?_
    refine r_cSi (n := 2) (As := [.int a0, .int 4]) (rest := []) C (c_fX10_within hj σ H.size a0 4) gs_RX10_85 (by decide +kernel) (rmD_le (by decide) (by decide)) rfl rfl (Nat.le_of_ble_eq_true rfl) dX10_told_26 hP hS hl.1 (fun H locs hP hS => ?_)
    refine lv_if_ne (tgt := 35) hx hb dX10_told_29 (by decide) (fun c2 => ?_) (fun c2 => ?_)
    · replace hf := it_f c2 hf
      refine lv_aload_n hx hb dX10_told_35 rfl (lv_at hl 2 rfl) ?_
      refine r_get (k := 5) (v := .ref (ea E 28)) C hP oC_0 rfl iX10 (by decide) wm_t299 rfl rfl dX10_told_36 ?_
      refine lv_aload_n hx hb dX10_told_39 rfl (lv_at hl 2 rfl) ?_
      refine r_get (k := 0) (v := .ref (ea E 2)) C hP oC_0 rfl iX10 (by decide) wm_t294 rfl rfl dX10_told_40 ?_
      refine lv_aload_n hx hb dX10_told_43 rfl (lv_at hl 2 rfl) ?_
      refine r_get (k := 12) (v := .int (σ 0 12)) C hP oC_0 rfl iX10 (by decide) wm_t306 rfl rfl dX10_told_44 ?_
      obtain ⟨r3, hc4, hf⟩ := cq_e hf
      refine r_cVi (n := 1) (As := [.int (σ 0 12)]) (rest := [.ref (ea E 28)]) C (c_fX7_rainAt hj σ H.size (σ 0 12) hc4) oC_2 rfl gv_RX10_168 (by decide +kernel) (rmD_le (by decide) (by decide)) rfl rfl (Nat.le_of_ble_eq_true rfl) dX10_told_47 hP hS hl.1 (fun H locs hP hS => ?_)
      refine lv_aload_n hx hb dX10_told_50 rfl (lv_at hl 2 rfl) ?_
      refine r_get (k := 12) (v := .int (σ 0 12)) C hP oC_0 rfl iX10 (by decide) wm_t306 rfl rfl dX10_told_51 ?_
      refine lv_bipush (v := 24) hx hb dX10_told_54 (by decide) ?_
      refine lv_irem hx hb dX10_told_56 (by decide) ?_
      obtain ⟨σ6, hc5, hf⟩ := cv_e hf
      refine r_cVv (n := 2) (As := [.int r3, .int ((σ 0 12) - (σ 0 12) / 24 * 24)]) (rest := []) C (c_fX2_setTime hj σ H.size r3 ((σ 0 12) - (σ 0 12) / 24 * 24) hc5) oC_28 rfl gv_RX10_171 (by decide +kernel) (rmD_le (by decide) (by decide)) rfl rfl (Nat.le_of_ble_eq_true rfl) dX10_told_57 hP hS hl.1 (fun H locs hP hS => ?_)
      refine lv_aload hx hb dX10_told_60 (lv_at hl 1 rfl) ?_
      refine lv_aload_n hx hb dX10_told_62 rfl (lv_at hl 2 rfl) ?_
      refine r_get (k := 5) (v := .ref (ea E 28)) C hP oC_0 rfl iX10 (by decide) wm_t299 rfl rfl dX10_told_63 ?_
      refine lv_iload_n hx hb dX10_told_66 rfl (lv_at hl 3 rfl) ?_
      refine lv_iload hx hb dX10_told_67 (lv_at hl 0 rfl) ?_
      obtain ⟨r7, σ9, hc8, hf⟩ := cb_e hf
      refine r_cVi (n := 3) (As := [.ref (ea E 28), .int a0, .int (fX10_cellOf a1 a2 a3 a4)]) (rest := []) C (c_fX8_lawOf (h_fX10_stacksOf a1) hj σ6 H.size a0 (fX10_cellOf a1 a2 a3 a4) hc8) (oS (h_fX10_stacksOf a1)) rfl gv_RX10_235 (by decide +kernel) (rmD_le (by decide) (by decide)) rfl rfl (Nat.le_of_ble_eq_true rfl) dX10_told_69 hP hS hl.1 (fun H locs hP hS => ?_)
      cases hf
      exact r_iret C hP hS dX10_told_72
    · replace hf := it_t c2 hf
      refine lv_ldc (v := (-1000000)) hx hb hown (hts _ wm_t803) dX10_told_32 ?_
      cases hf
      exact r_iret C hP hS dX10_told_34
def fX10_fair (σ : St) (a0 : Int32) : Option (Int32 × St) :=
(if (fX10_within a0 21) = 0 then
some ((-1), σ)
else
(cb (fX3_fewest σ a0) fun r2 σ4 =>
some (r2, σ4)))
set_option maxHeartbeats 4000000 in
theorem c_fX10_fair {E : Ev} {l : Launch} (hj : jW true E) (σ : St) (sz : Nat) (a0 : Int32) {rr : Int32} {sr : St} (hf : fX10_fair σ a0 = some (rr, sr)) : Met l yX10_fair (Cond.code yX10_fair cX10_fair 2 (some .int) :: gT) (rmD 6) (va_Pc [.ref (ea E 0), .int a0] (preW true E σ sz)) (QI true E rr sr sz) 0 0 (aW true E sz) := by
  refine r_entry (QI true E rr sr) hj (by decide) [.ref (ea E 0), .int a0] (Nat.le_of_ble_eq_true rfl) (fun p e s m args below meth c C => ?_)
  intro H locs ls hP hS hl
  have hl : lv_has ls 2 [(0, .ref (ea E 0)), (1, .int a0)] := hl
  obtain ⟨hx, hb, hr, hml, hown, hts, hlocks, hK, hX, hj⟩ := id C
  unfold fX10_fair at hf
  refine lv_iload_n hx hb dX10_fair_0 rfl (lv_at hl 1 rfl) ?_
  refine lv_bipush (v := 21) hx hb dX10_fair_1 (by decide) ?_
  refine r_cSi (n := 2) (As := [.int a0, .int 21]) (rest := []) C (c_fX10_within hj σ H.size a0 21) gs_RX10_85 (by decide +kernel) (rmD_le (by decide) (by decide)) rfl rfl (Nat.le_of_ble_eq_true rfl) dX10_fair_3 hP hS hl.1 (fun H locs hP hS => ?_)
  refine lv_if_eq (tgt := 24) hx hb dX10_fair_6 (by decide) (fun c1 => ?_) (fun c1 => ?_)
  · replace hf := it_t c1 hf
    refine lv_iconst (v := (-1)) hx hb dX10_fair_24 (by decide) ?_
    cases hf
    exact r_iret C hP hS dX10_fair_25
  · replace hf := it_f c1 hf
    refine lv_aload_n hx hb dX10_fair_9 rfl (lv_at hl 0 rfl) ?_
    refine r_get (k := 8) (v := .ref (ea E 38)) C hP oC_0 rfl iX10 (by decide) wm_t302 rfl rfl dX10_fair_10 ?_
    refine lv_aload_n hx hb dX10_fair_13 rfl (lv_at hl 0 rfl) ?_
    refine r_get (k := 1) (v := .ref (ea E 5)) C hP oC_0 rfl iX10 (by decide) wm_t295 rfl rfl dX10_fair_14 ?_
    refine lv_iload_n hx hb dX10_fair_17 rfl (lv_at hl 1 rfl) ?_
    obtain ⟨r2, σ4, hc3, hf⟩ := cb_e hf
    refine r_cVi (n := 2) (As := [.ref (ea E 5), .int a0]) (rest := []) C (c_fX3_fewest hj σ H.size a0 hc3) oC_38 rfl gv_RX10_266 (by decide +kernel) (rmD_le (by decide) (by decide)) rfl rfl (Nat.le_of_ble_eq_true rfl) dX10_fair_18 hP hS hl.1 (fun H locs hP hS => ?_)
    refine lv_goto (tgt := 25) hx hb dX10_fair_21 (by decide) ?_
    cases hf
    exact r_iret C hP hS dX10_fair_25
def fX10_may_117 (σ : St) (x1 : Int32) (x2 : Int32) (y0 : Int32) (y1 : Int32) (y2 : Int32) (y3 : Int32) : Option (Int32 × St) :=
(cv (fX1_setVoyage σ y3 y2 y1 y0) fun σ2 =>
(cb (fX1_someLine σ2 x2 x1) fun r3 σ5 =>
(if r3 = 0 then
some (0, σ5)
else
some (1, σ5))))
set_option maxHeartbeats 4000000 in
theorem b_fX10_may_117 {E : Ev} {l : Launch} {p : Program} {e : Env} {s : State} {m : MethodId} {args : Array Value} {below : List Frame} {meth : Method} {c : Code} (C : CX true E RX10 cX10_may 3 (some .int) p s m args meth c) {rr : Int32} {sr : St} : ∀ (σ : St) (x1 : Int32) (x2 : Int32) (y0 : Int32) (y1 : Int32) (y2 : Int32) (y3 : Int32), fX10_may_117 σ x1 x2 y0 y1 y2 y3 = some (rr, sr) → GW true l (rmD 4) E 3 p e s m args below meth c (MQ below (QI true E rr sr s.heap.size) args s 0 0 (aW true E s.heap.size)) σ 117 [(0, .ref (ea E 0)), (1, .int x1), (2, .int x2)] [.int y0, .int y1, .int y2, .int y3, .ref (ea E 30)] := by
  intro σ x1 x2 y0 y1 y2 y3 hf H locs ls hP hS hl
  obtain ⟨hx, hb, hr, hml, hown, hts, hlocks, hK, hX, hj⟩ := id C
  unfold fX10_may_117 at hf
  obtain ⟨σ2, hc1, hf⟩ := cv_e hf
  refine r_cVv (n := 4) (As := [.int y3, .int y2, .int y1, .int y0]) (rest := []) C (c_fX1_setVoyage hj σ H.size y3 y2 y1 y0 hc1) oC_30 rfl gv_RX10_280 (by decide +kernel) (rmD_le (by decide) (by decide)) rfl rfl (Nat.le_of_ble_eq_true rfl) dX10_may_117 hP hS hl.1 (fun H locs hP hS => ?_)
  refine lv_aload_n hx hb dX10_may_120 rfl (lv_at hl 0 rfl) ?_
  refine r_get (k := 6) (v := .ref (ea E 30)) C hP oC_0 rfl iX10 (by decide) wm_t300 rfl rfl dX10_may_121 ?_
  refine lv_iload_n hx hb dX10_may_124 rfl (lv_at hl 2 rfl) ?_
  refine lv_iload_n hx hb dX10_may_125 rfl (lv_at hl 1 rfl) ?_
  obtain ⟨r3, σ5, hc4, hf⟩ := cb_e hf
  refine r_cVi (n := 2) (As := [.int x2, .int x1]) (rest := []) C (c_fX1_someLine hj σ2 H.size x2 x1 hc4) oC_30 rfl gv_RX10_283 (by decide +kernel) (rmD_le (by decide) (by decide)) rfl rfl (Nat.le_of_ble_eq_true rfl) dX10_may_126 hP hS hl.1 (fun H locs hP hS => ?_)
  refine lv_if_eq (tgt := 136) hx hb dX10_may_129 (by decide) (fun c6 => ?_) (fun c6 => ?_)
  · replace hf := it_t c6 hf
    refine lv_iconst (v := 0) hx hb dX10_may_136 (by decide) ?_
    cases hf
    exact r_iret C hP hS dX10_may_137
  · replace hf := it_f c6 hf
    refine lv_iconst (v := 1) hx hb dX10_may_132 (by decide) ?_
    refine lv_goto (tgt := 137) hx hb dX10_may_133 (by decide) ?_
    cases hf
    exact r_iret C hP hS dX10_may_137
def fX10_may_38 (σ : St) (x1 : Int32) (x2 : Int32) (y0 : Int32) : Option (Int32 × St) :=
(cq (fX0_lastWet σ) fun r1 =>
(cq (fX0_age σ (σ 0 12)) fun r3 =>
(cq (fX7_rainAt σ (σ 0 12)) fun r5 =>
(cv (fX1_setPapers σ y0 r1 r3 r5) fun σ8 =>
(cq (fX8_cellsWithOre (10 + 2) σ8) fun r9 =>
(cq (fX7_swellAt σ8 (σ8 0 12)) fun r11 =>
(if (σ8 10 3) = 0 then
fX10_may_117 σ8 x1 x2 1 r11 r9 ((σ8 0 12) / 24)
else
fX10_may_117 σ8 x1 x2 0 r11 r9 ((σ8 0 12) / 24))))))))
set_option maxHeartbeats 4000000 in
theorem b_fX10_may_38 {E : Ev} {l : Launch} {p : Program} {e : Env} {s : State} {m : MethodId} {args : Array Value} {below : List Frame} {meth : Method} {c : Code} (C : CX true E RX10 cX10_may 3 (some .int) p s m args meth c) {rr : Int32} {sr : St} : ∀ (σ : St) (x1 : Int32) (x2 : Int32) (y0 : Int32), fX10_may_38 σ x1 x2 y0 = some (rr, sr) → GW true l (rmD 4) E 3 p e s m args below meth c (MQ below (QI true E rr sr s.heap.size) args s 0 0 (aW true E s.heap.size)) σ 38 [(0, .ref (ea E 0)), (1, .int x1), (2, .int x2)] [.int y0, .ref (ea E 30)] := by
  intro σ x1 x2 y0 hf H locs ls hP hS hl
  obtain ⟨hx, hb, hr, hml, hown, hts, hlocks, hK, hX, hj⟩ := id C
  unfold fX10_may_38 at hf
  refine lv_aload_n hx hb dX10_may_38 rfl (lv_at hl 0 rfl) ?_
  refine r_get (k := 7) (v := .ref (ea E 34)) C hP oC_0 rfl iX10 (by decide) wm_t301 rfl rfl dX10_may_39 ?_
  obtain ⟨r1, hc2, hf⟩ := cq_e hf
  refine r_cVi (n := 0) (As := []) (rest := [.int y0, .ref (ea E 30)]) C (c_fX0_lastWet hj σ H.size hc2) oC_34 rfl gv_RX10_270 (by decide +kernel) (rmD_le (by decide) (by decide)) rfl rfl (Nat.le_of_ble_eq_true rfl) dX10_may_42 hP hS hl.1 (fun H locs hP hS => ?_)
  refine lv_aload_n hx hb dX10_may_45 rfl (lv_at hl 0 rfl) ?_
  refine r_get (k := 7) (v := .ref (ea E 34)) C hP oC_0 rfl iX10 (by decide) wm_t301 rfl rfl dX10_may_46 ?_
  refine lv_aload_n hx hb dX10_may_49 rfl (lv_at hl 0 rfl) ?_
  refine r_get (k := 12) (v := .int (σ 0 12)) C hP oC_0 rfl iX10 (by decide) wm_t306 rfl rfl dX10_may_50 ?_
  obtain ⟨r3, hc4, hf⟩ := cq_e hf
  refine r_cVi (n := 1) (As := [.int (σ 0 12)]) (rest := [.int r1, .int y0, .ref (ea E 30)]) C (c_fX0_age hj σ H.size (σ 0 12) hc4) oC_34 rfl gv_RX10_273 (by decide +kernel) (rmD_le (by decide) (by decide)) rfl rfl (Nat.le_of_ble_eq_true rfl) dX10_may_53 hP hS hl.1 (fun H locs hP hS => ?_)
  refine lv_aload_n hx hb dX10_may_56 rfl (lv_at hl 0 rfl) ?_
  refine r_get (k := 0) (v := .ref (ea E 2)) C hP oC_0 rfl iX10 (by decide) wm_t294 rfl rfl dX10_may_57 ?_
  refine lv_aload_n hx hb dX10_may_60 rfl (lv_at hl 0 rfl) ?_
  refine r_get (k := 12) (v := .int (σ 0 12)) C hP oC_0 rfl iX10 (by decide) wm_t306 rfl rfl dX10_may_61 ?_
  obtain ⟨r5, hc6, hf⟩ := cq_e hf
  refine r_cVi (n := 1) (As := [.int (σ 0 12)]) (rest := [.int r3, .int r1, .int y0, .ref (ea E 30)]) C (c_fX7_rainAt hj σ H.size (σ 0 12) hc6) oC_2 rfl gv_RX10_168 (by decide +kernel) (rmD_le (by decide) (by decide)) rfl rfl (Nat.le_of_ble_eq_true rfl) dX10_may_64 hP hS hl.1 (fun H locs hP hS => ?_)
  obtain ⟨σ8, hc7, hf⟩ := cv_e hf
  refine r_cVv (n := 4) (As := [.int y0, .int r1, .int r3, .int r5]) (rest := []) C (c_fX1_setPapers hj σ H.size y0 r1 r3 r5 hc7) oC_30 rfl gv_RX10_276 (by decide +kernel) (rmD_le (by decide) (by decide)) rfl rfl (Nat.le_of_ble_eq_true rfl) dX10_may_67 hP hS hl.1 (fun H locs hP hS => ?_)
  refine lv_aload_n hx hb dX10_may_70 rfl (lv_at hl 0 rfl) ?_
  refine r_get (k := 6) (v := .ref (ea E 30)) C hP oC_0 rfl iX10 (by decide) wm_t300 rfl rfl dX10_may_71 ?_
  refine lv_aload_n hx hb dX10_may_74 rfl (lv_at hl 0 rfl) ?_
  refine r_get (k := 12) (v := .int (σ8 0 12)) C hP oC_0 rfl iX10 (by decide) wm_t306 rfl rfl dX10_may_75 ?_
  refine lv_bipush (v := 24) hx hb dX10_may_78 (by decide) ?_
  refine lv_idiv hx hb dX10_may_80 (by decide) ?_
  refine lv_aload_n hx hb dX10_may_81 rfl (lv_at hl 0 rfl) ?_
  refine r_get (k := 2) (v := .ref (ea E 10)) C hP oC_0 rfl iX10 (by decide) wm_t296 rfl rfl dX10_may_82 ?_
  refine r_get (k := 0) (v := .ref (ea E (10 + 2))) C hP (oV fV_10) rfl iX5 (by decide) wm_t95 rfl rfl dX10_may_85 ?_
  obtain ⟨r9, hc10, hf⟩ := cq_e hf
  refine r_cVi (n := 0) (As := []) (rest := [.int ((σ8 0 12) / 24), .ref (ea E 30)]) C (c_fX8_cellsWithOre (fV_S fV_10) hj σ8 H.size hc10) (oS (fV_S fV_10)) rfl gv_RX10_225 (by decide +kernel) (rmD_le (by decide) (by decide)) rfl rfl (Nat.le_of_ble_eq_true rfl) dX10_may_88 hP hS hl.1 (fun H locs hP hS => ?_)
  refine lv_aload_n hx hb dX10_may_91 rfl (lv_at hl 0 rfl) ?_
  refine r_get (k := 0) (v := .ref (ea E 2)) C hP oC_0 rfl iX10 (by decide) wm_t294 rfl rfl dX10_may_92 ?_
  refine lv_aload_n hx hb dX10_may_95 rfl (lv_at hl 0 rfl) ?_
  refine r_get (k := 12) (v := .int (σ8 0 12)) C hP oC_0 rfl iX10 (by decide) wm_t306 rfl rfl dX10_may_96 ?_
  obtain ⟨r11, hc12, hf⟩ := cq_e hf
  refine r_cVi (n := 1) (As := [.int (σ8 0 12)]) (rest := [.int r9, .int ((σ8 0 12) / 24), .ref (ea E 30)]) C (c_fX7_swellAt hj σ8 H.size (σ8 0 12) hc12) oC_2 rfl gv_RX10_183 (by decide +kernel) (rmD_le (by decide) (by decide)) rfl rfl (Nat.le_of_ble_eq_true rfl) dX10_may_99 hP hS hl.1 (fun H locs hP hS => ?_)
  refine lv_aload_n hx hb dX10_may_102 rfl (lv_at hl 0 rfl) ?_
  refine r_get (k := 2) (v := .ref (ea E 10)) C hP oC_0 rfl iX10 (by decide) wm_t296 rfl rfl dX10_may_103 ?_
  refine r_get (k := 3) (v := .int (σ8 10 3)) C hP (oV fV_10) rfl iX5 (by decide) wm_t99 rfl rfl dX10_may_106 ?_
  refine lv_if_eq (tgt := 116) hx hb dX10_may_109 (by decide) (fun c13 => ?_) (fun c13 => ?_)
  · replace hf := it_t c13 hf
    refine lv_iconst (v := 1) hx hb dX10_may_116 (by decide) ?_
    exact b_fX10_may_117 C σ8 x1 x2 1 r11 r9 ((σ8 0 12) / 24) hf H locs ls hP hS (lv_sub hl [0, 1, 2] rfl)
  · replace hf := it_f c13 hf
    refine lv_iconst (v := 0) hx hb dX10_may_112 (by decide) ?_
    refine lv_goto (tgt := 117) hx hb dX10_may_113 (by decide) ?_
    exact b_fX10_may_117 C σ8 x1 x2 0 r11 r9 ((σ8 0 12) / 24) hf H locs ls hP hS (lv_sub hl [0, 1, 2] rfl)
def fX10_may (σ : St) (a0 : Int32) (a1 : Int32) : Option (Int32 × St) :=
(if (fX10_within a0 4) = 0 then
some ((-1), σ)
else
(if (fX10_within a1 3) = 0 then
some ((-1), σ)
else
(if (σ 0 13) = (-1) then
fX10_may_38 σ a0 a1 0
else
fX10_may_38 σ a0 a1 (σ 0 13))))
set_option maxHeartbeats 4000000 in
theorem c_fX10_may {E : Ev} {l : Launch} (hj : jW true E) (σ : St) (sz : Nat) (a0 : Int32) (a1 : Int32) {rr : Int32} {sr : St} (hf : fX10_may σ a0 a1 = some (rr, sr)) : Met l yX10_may (Cond.code yX10_may cX10_may 3 (some .int) :: gT) (rmD 4) (va_Pc [.ref (ea E 0), .int a0, .int a1] (preW true E σ sz)) (QI true E rr sr sz) 0 0 (aW true E sz) := by
  refine r_entry (QI true E rr sr) hj (by decide) [.ref (ea E 0), .int a0, .int a1] (Nat.le_of_ble_eq_true rfl) (fun p e s m args below meth c C => ?_)
  intro H locs ls hP hS hl
  have hl : lv_has ls 3 [(0, .ref (ea E 0)), (1, .int a0), (2, .int a1)] := hl
  obtain ⟨hx, hb, hr, hml, hown, hts, hlocks, hK, hX, hj⟩ := id C
  unfold fX10_may at hf
  refine lv_iload_n hx hb dX10_may_0 rfl (lv_at hl 1 rfl) ?_
  refine lv_iconst (v := 4) hx hb dX10_may_1 (by decide) ?_
  refine r_cSi (n := 2) (As := [.int a0, .int 4]) (rest := []) C (c_fX10_within hj σ H.size a0 4) gs_RX10_85 (by decide +kernel) (rmD_le (by decide) (by decide)) rfl rfl (Nat.le_of_ble_eq_true rfl) dX10_may_2 hP hS hl.1 (fun H locs hP hS => ?_)
  refine lv_if_eq (tgt := 16) hx hb dX10_may_5 (by decide) (fun c1 => ?_) (fun c1 => ?_)
  · replace hf := it_t c1 hf
    refine lv_iconst (v := (-1)) hx hb dX10_may_16 (by decide) ?_
    cases hf
    exact r_iret C hP hS dX10_may_17
  · replace hf := it_f c1 hf
    refine lv_iload_n hx hb dX10_may_8 rfl (lv_at hl 2 rfl) ?_
    refine lv_iconst (v := 3) hx hb dX10_may_9 (by decide) ?_
    refine r_cSi (n := 2) (As := [.int a1, .int 3]) (rest := []) C (c_fX10_within hj σ H.size a1 3) gs_RX10_85 (by decide +kernel) (rmD_le (by decide) (by decide)) rfl rfl (Nat.le_of_ble_eq_true rfl) dX10_may_10 hP hS hl.1 (fun H locs hP hS => ?_)
    refine lv_if_ne (tgt := 18) hx hb dX10_may_13 (by decide) (fun c2 => ?_) (fun c2 => ?_)
    · replace hf := it_f c2 hf
      refine lv_aload_n hx hb dX10_may_18 rfl (lv_at hl 0 rfl) ?_
      refine r_get (k := 6) (v := .ref (ea E 30)) C hP oC_0 rfl iX10 (by decide) wm_t300 rfl rfl dX10_may_19 ?_
      refine lv_aload_n hx hb dX10_may_22 rfl (lv_at hl 0 rfl) ?_
      refine r_get (k := 13) (v := .int (σ 0 13)) C hP oC_0 rfl iX10 (by decide) wm_t307 rfl rfl dX10_may_23 ?_
      refine lv_iconst (v := (-1)) hx hb dX10_may_26 (by decide) ?_
      refine lv_icmp_ne (tgt := 34) hx hb dX10_may_27 (by decide) (fun c3 => ?_) (fun c3 => ?_)
      · replace hf := it_f c3 hf
        refine lv_aload_n hx hb dX10_may_34 rfl (lv_at hl 0 rfl) ?_
        refine r_get (k := 13) (v := .int (σ 0 13)) C hP oC_0 rfl iX10 (by decide) wm_t307 rfl rfl dX10_may_35 ?_
        exact b_fX10_may_38 C σ a0 a1 (σ 0 13) hf H locs ls hP hS (lv_sub hl [0, 1, 2] rfl)
      · replace hf := it_t c3 hf
        refine lv_iconst (v := 0) hx hb dX10_may_30 (by decide) ?_
        refine lv_goto (tgt := 38) hx hb dX10_may_31 (by decide) ?_
        exact b_fX10_may_38 C σ a0 a1 0 hf H locs ls hP hS (lv_sub hl [0, 1, 2] rfl)
    · replace hf := it_t c2 hf
      refine lv_iconst (v := (-1)) hx hb dX10_may_16 (by decide) ?_
      cases hf
      exact r_iret C hP hS dX10_may_17
def fX1_findWays_45B (rec23 : St → Int32 → Option St) (rec45 : St → Int32 → Int32 → Option St) (σ : St) (x1 : Int32) (x2 : Int32) : Option St :=
(if 21 ≤ x2 then
rec23 σ (x1 + 1)
else
(cv (fX1_findWaysOf σ x2 x1) fun σ3 =>
rec45 σ3 x1 (x2 + 1)))
set_option maxHeartbeats 4000000 in
theorem b_fX1_findWays_45B {E : Ev} {l : Launch} {p : Program} {e : Env} {s : State} {m : MethodId} {args : Array Value} {below : List Frame} {meth : Method} {c : Code} (C : CX true E RX1 cX1_findWays 3 none p s m args meth c) {sr : St} (rec23 : St → Int32 → Option St) (hr23 : ∀ (σ : St) (x1 : Int32), rec23 σ x1 = some sr → GW true l (rmD 5) E 3 p e s m args below meth c (MQ below (QV true E sr s.heap.size) args s 0 0 (aW true E s.heap.size)) σ 23 [(0, .ref (ea E 30)), (1, .int x1)] []) (rec45 : St → Int32 → Int32 → Option St) (hr45 : ∀ (σ : St) (x1 : Int32) (x2 : Int32), rec45 σ x1 x2 = some sr → GW true l (rmD 5) E 3 p e s m args below meth c (MQ below (QV true E sr s.heap.size) args s 0 0 (aW true E s.heap.size)) σ 45 [(0, .ref (ea E 30)), (1, .int x1), (2, .int x2)] []) : ∀ (σ : St) (x1 : Int32) (x2 : Int32), fX1_findWays_45B rec23 rec45 σ x1 x2 = some sr → GW true l (rmD 5) E 3 p e s m args below meth c (MQ below (QV true E sr s.heap.size) args s 0 0 (aW true E s.heap.size)) σ 45 [(0, .ref (ea E 30)), (1, .int x1), (2, .int x2)] [] := by
  intro σ x1 x2 hf H locs ls hP hS hl
  obtain ⟨hx, hb, hr, hml, hown, hts, hlocks, hK, hX, hj⟩ := id C
  unfold fX1_findWays_45B at hf
  refine lv_iload_n hx hb dX1_findWays_45 rfl (lv_at hl 2 rfl) ?_
  refine lv_bipush (v := 21) hx hb dX1_findWays_46 (by decide) ?_
  refine lv_icmp_ge (tgt := 63) hx hb dX1_findWays_48 (by decide) (fun c1 => ?_) (fun c1 => ?_)
  · replace hf := it_t c1 hf
    refine lv_iinc (v := (x1 + 1)) (lv' := [(1, .int (x1 + 1)), (0, .ref (ea E 30)), (2, .int x2)]) hx hb dX1_findWays_63 hl (k := 1) rfl rfl (by decide) rfl (fun ls hl => ?_)
    refine lv_goto (tgt := 23) hx hb dX1_findWays_66 (by decide) ?_
    exact hr23 σ (x1 + 1) hf H locs ls hP hS (lv_sub hl [1, 0] rfl)
  · replace hf := it_f c1 hf
    refine lv_aload_n hx hb dX1_findWays_51 rfl (lv_at hl 0 rfl) ?_
    refine lv_iload_n hx hb dX1_findWays_52 rfl (lv_at hl 2 rfl) ?_
    refine lv_iload_n hx hb dX1_findWays_53 rfl (lv_at hl 1 rfl) ?_
    obtain ⟨σ3, hc2, hf⟩ := cv_e hf
    refine r_cVv (n := 2) (As := [.int x2, .int x1]) (rest := []) C (c_fX1_findWaysOf hj σ H.size x2 x1 hc2) oC_30 rfl gv_RX1_51 (by decide +kernel) (rmD_le (by decide) (by decide)) rfl rfl (Nat.le_of_ble_eq_true rfl) dX1_findWays_54 hP hS hl.1 (fun H locs hP hS => ?_)
    refine lv_iinc (v := (x2 + 1)) (lv' := [(2, .int (x2 + 1)), (0, .ref (ea E 30)), (1, .int x1)]) hx hb dX1_findWays_57 hl (k := 2) rfl rfl (by decide) rfl (fun ls hl => ?_)
    refine lv_goto (tgt := 45) hx hb dX1_findWays_60 (by decide) ?_
    exact hr45 σ3 x1 (x2 + 1) hf H locs ls hP hS (lv_sub hl [1, 2, 0] rfl)
def fX1_findWays_45 (rec23 : St → Int32 → Option St) : Nat → St → Int32 → Int32 → Option St
  | 0 => fun _ _ _ => none
  | n + 1 => fun σ x1 x2 => fX1_findWays_45B rec23 (fX1_findWays_45 rec23 n) σ x1 x2
theorem b_fX1_findWays_45 {E : Ev} {l : Launch} {p : Program} {e : Env} {s : State} {m : MethodId} {args : Array Value} {below : List Frame} {meth : Method} {c : Code} (C : CX true E RX1 cX1_findWays 3 none p s m args meth c) {sr : St} (rec23 : St → Int32 → Option St) (hr23 : ∀ (σ : St) (x1 : Int32), rec23 σ x1 = some sr → GW true l (rmD 5) E 3 p e s m args below meth c (MQ below (QV true E sr s.heap.size) args s 0 0 (aW true E s.heap.size)) σ 23 [(0, .ref (ea E 30)), (1, .int x1)] []) : ∀ (n : Nat) (σ : St) (x1 : Int32) (x2 : Int32), fX1_findWays_45 rec23 n σ x1 x2 = some sr → GW true l (rmD 5) E 3 p e s m args below meth c (MQ below (QV true E sr s.heap.size) args s 0 0 (aW true E s.heap.size)) σ 45 [(0, .ref (ea E 30)), (1, .int x1), (2, .int x2)] [] := by
  intro n
  induction n with
  | zero => intro σ x1 x2 hf; have hf : (none : Option _) = some _ := hf; cases hf
  | succ n ih => intro σ x1 x2 hf; exact b_fX1_findWays_45B C rec23 hr23 (fX1_findWays_45 rec23 n) ih σ x1 x2 hf
def fX1_findWays_23B (rec23 : St → Int32 → Option St) (σ : St) (x1 : Int32) : Option St :=
(if 21 ≤ x1 then
some σ
else
(wrK 21 σ 31 x1 0 fun σ2 =>
(wrK 21 σ2 32 x1 (-1) fun σ4 =>
fX1_findWays_45 rec23 FU σ4 x1 0)))
set_option maxHeartbeats 4000000 in
theorem b_fX1_findWays_23B {E : Ev} {l : Launch} {p : Program} {e : Env} {s : State} {m : MethodId} {args : Array Value} {below : List Frame} {meth : Method} {c : Code} (C : CX true E RX1 cX1_findWays 3 none p s m args meth c) {sr : St} (rec23 : St → Int32 → Option St) (hr23 : ∀ (σ : St) (x1 : Int32), rec23 σ x1 = some sr → GW true l (rmD 5) E 3 p e s m args below meth c (MQ below (QV true E sr s.heap.size) args s 0 0 (aW true E s.heap.size)) σ 23 [(0, .ref (ea E 30)), (1, .int x1)] []) : ∀ (σ : St) (x1 : Int32), fX1_findWays_23B rec23 σ x1 = some sr → GW true l (rmD 5) E 3 p e s m args below meth c (MQ below (QV true E sr s.heap.size) args s 0 0 (aW true E s.heap.size)) σ 23 [(0, .ref (ea E 30)), (1, .int x1)] [] := by
  intro σ x1 hf H locs ls hP hS hl
  obtain ⟨hx, hb, hr, hml, hown, hts, hlocks, hK, hX, hj⟩ := id C
  unfold fX1_findWays_23B at hf
  refine lv_iload_n hx hb dX1_findWays_23 rfl (lv_at hl 1 rfl) ?_
  refine lv_bipush (v := 21) hx hb dX1_findWays_24 (by decide) ?_
  refine lv_icmp_ge (tgt := 69) hx hb dX1_findWays_26 (by decide) (fun c1 => ?_) (fun c1 => ?_)
  · replace hf := it_t c1 hf
    cases hf
    exact r_vret C hP hS dX1_findWays_69
  · replace hf := it_f c1 hf
    refine lv_aload_n hx hb dX1_findWays_29 rfl (lv_at hl 0 rfl) ?_
    refine r_get (k := 2) (v := .ref (ea E 31)) C hP oC_30 rfl iX1 (by decide) wm_t227 rfl rfl dX1_findWays_30 ?_
    refine lv_iload_n hx hb dX1_findWays_33 rfl (lv_at hl 1 rfl) ?_
    refine lv_iconst (v := 0) hx hb dX1_findWays_34 (by decide) ?_
    obtain ⟨h3, σ2, eσ2, hf⟩ := wrK_e hf
    refine r_ast C hP hS aC_31 h3 dX1_findWays_35 (fun H locs hP hS => ?_)
    rw [← eσ2] at hP
    refine lv_aload_n hx hb dX1_findWays_36 rfl (lv_at hl 0 rfl) ?_
    refine r_get (k := 3) (v := .ref (ea E 32)) C hP oC_30 rfl iX1 (by decide) wm_t228 rfl rfl dX1_findWays_37 ?_
    refine lv_iload_n hx hb dX1_findWays_40 rfl (lv_at hl 1 rfl) ?_
    refine lv_iconst (v := (-1)) hx hb dX1_findWays_41 (by decide) ?_
    obtain ⟨h5, σ4, eσ4, hf⟩ := wrK_e hf
    refine r_ast C hP hS aC_32 h5 dX1_findWays_42 (fun H locs hP hS => ?_)
    rw [← eσ4] at hP
    refine lv_iconst (v := 0) hx hb dX1_findWays_43 (by decide) ?_
    refine lv_istore_n (lv' := [(2, .int 0), (0, .ref (ea E 30)), (1, .int x1)]) hx hb dX1_findWays_44 rfl hl (by decide) rfl (fun ls hl => ?_)
    exact b_fX1_findWays_45 C rec23 hr23 FU σ4 x1 0 hf H locs ls hP hS (lv_sub hl [1, 2, 0] rfl)
def fX1_findWays_23 : Nat → St → Int32 → Option St
  | 0 => fun _ _ => none
  | n + 1 => fun σ x1 => fX1_findWays_23B (fX1_findWays_23 n) σ x1
theorem b_fX1_findWays_23 {E : Ev} {l : Launch} {p : Program} {e : Env} {s : State} {m : MethodId} {args : Array Value} {below : List Frame} {meth : Method} {c : Code} (C : CX true E RX1 cX1_findWays 3 none p s m args meth c) {sr : St} : ∀ (n : Nat) (σ : St) (x1 : Int32), fX1_findWays_23 n σ x1 = some sr → GW true l (rmD 5) E 3 p e s m args below meth c (MQ below (QV true E sr s.heap.size) args s 0 0 (aW true E s.heap.size)) σ 23 [(0, .ref (ea E 30)), (1, .int x1)] [] := by
  intro n
  induction n with
  | zero => intro σ x1 hf; have hf : (none : Option _) = some _ := hf; cases hf
  | succ n ih => intro σ x1 hf; exact b_fX1_findWays_23B C (fX1_findWays_23 n) ih σ x1 hf
def fX1_findWays (σ : St) : Option St :=
(if (σ 30 1) = 0 then
(nmS (st_put σ 30 1 1) fun σ2 =>
(cv (fX1_setVoyage σ2 0 0 0 1) fun σ4 =>
fX1_findWays_23 FU σ4 0))
else
some σ)
set_option maxHeartbeats 4000000 in
theorem c_fX1_findWays {E : Ev} {l : Launch} (hj : jW true E) (σ : St) (sz : Nat) {sr : St} (hf : fX1_findWays σ = some sr) : Met l yX1_findWays (Cond.code yX1_findWays cX1_findWays 3 none :: gT) (rmD 5) (va_Pc [.ref (ea E 30)] (preW true E σ sz)) (QV true E sr sz) 0 0 (aW true E sz) := by
  refine r_entry (QV true E sr) hj (by decide) [.ref (ea E 30)] (Nat.le_of_ble_eq_true rfl) (fun p e s m args below meth c C => ?_)
  intro H locs ls hP hS hl
  have hl : lv_has ls 3 [(0, .ref (ea E 30))] := hl
  obtain ⟨hx, hb, hr, hml, hown, hts, hlocks, hK, hX, hj⟩ := id C
  unfold fX1_findWays at hf
  refine lv_aload_n hx hb dX1_findWays_0 rfl (lv_at hl 0 rfl) ?_
  refine r_get (k := 1) (v := .int (σ 30 1)) C hP oC_30 rfl iX1 (by decide) wm_t225 rfl rfl dX1_findWays_1 ?_
  refine lv_if_eq (tgt := 8) hx hb dX1_findWays_4 (by decide) (fun c1 => ?_) (fun c1 => ?_)
  · replace hf := it_t c1 hf
    refine lv_aload_n hx hb dX1_findWays_8 rfl (lv_at hl 0 rfl) ?_
    refine lv_iconst (v := 1) hx hb dX1_findWays_9 (by decide) ?_
    refine r_put (k := 1) (x := 1) C hP hS tyX1 tyX1_ok nmX1 oC_30 rfl iX1 (by decide) wm_t225 rfl rfl sC_30_1 rfl rfl (Nat.le_of_ble_eq_true rfl) dX1_findWays_10 (fun H locs hP hS => ?_)
    obtain ⟨σ2, eσ2, hf⟩ := nmS_e hf
    rw [← eσ2] at hP
    refine lv_aload_n hx hb dX1_findWays_13 rfl (lv_at hl 0 rfl) ?_
    refine lv_iconst (v := 0) hx hb dX1_findWays_14 (by decide) ?_
    refine lv_iconst (v := 0) hx hb dX1_findWays_15 (by decide) ?_
    refine lv_iconst (v := 0) hx hb dX1_findWays_16 (by decide) ?_
    refine lv_iconst (v := 1) hx hb dX1_findWays_17 (by decide) ?_
    obtain ⟨σ4, hc3, hf⟩ := cv_e hf
    refine r_cVv (n := 4) (As := [.int 0, .int 0, .int 0, .int 1]) (rest := []) C (c_fX1_setVoyage hj σ2 H.size 0 0 0 1 hc3) oC_30 rfl gv_RX1_47 (by decide +kernel) (rmD_le (by decide) (by decide)) rfl rfl (Nat.le_of_ble_eq_true rfl) dX1_findWays_18 hP hS hl.1 (fun H locs hP hS => ?_)
    refine lv_iconst (v := 0) hx hb dX1_findWays_21 (by decide) ?_
    refine lv_istore_n (lv' := [(1, .int 0), (0, .ref (ea E 30))]) hx hb dX1_findWays_22 rfl hl (by decide) rfl (fun ls hl => ?_)
    exact b_fX1_findWays_23 C FU σ4 0 hf H locs ls hP hS (lv_sub hl [1, 0] rfl)
  · replace hf := it_f c1 hf
    cases hf
    exact r_vret C hP hS dX1_findWays_7
def fX4_lawPart (σ : St) (a0 : Int32) : Option (Int32 × St) :=
(gw (σ 24 7) fun w1 =>
(cv (fX9_beginLine w1 σ a0 (-1)) fun σ3 =>
(cb (fX4_sum σ3) fun r4 σ6 =>
(zb r4 (some (r4, σ6))))))
set_option maxHeartbeats 4000000 in
theorem c_fX4_lawPart {E : Ev} {l : Launch} (hj : jW true E) (σ : St) (sz : Nat) (a0 : Int32) {rr : Int32} {sr : St} (hf : fX4_lawPart σ a0 = some (rr, sr)) : Met l yX4_lawPart (Cond.code yX4_lawPart cX4_lawPart 2 (some .boolean) :: gT) (rmD 4) (va_Pc [.ref (ea E 24), .int a0] (preW true E σ sz)) (QI true E rr sr sz) 0 0 (aW true E sz) := by
  refine r_entry (QI true E rr sr) hj (by decide) [.ref (ea E 24), .int a0] (Nat.le_of_ble_eq_true rfl) (fun p e s m args below meth c C => ?_)
  intro H locs ls hP hS hl
  have hl : lv_has ls 2 [(0, .ref (ea E 24)), (1, .int a0)] := hl
  obtain ⟨hx, hb, hr, hml, hown, hts, hlocks, hK, hX, hj⟩ := id C
  unfold fX4_lawPart at hf
  refine lv_aload_n hx hb dX4_lawPart_0 rfl (lv_at hl 0 rfl) ?_
  refine r_get (k := 7) (v := .ref (ea E (σ 24 7).toNatClampNeg)) C hP oC_24 rfl iX4 (by decide) wm_t169 rfl rfl dX4_lawPart_1 ?_
  obtain ⟨w1, ew1, hw1, hf⟩ := gw_e hf
  rw [ew1]
  refine lv_iload_n hx hb dX4_lawPart_4 rfl (lv_at hl 1 rfl) ?_
  refine lv_iconst (v := (-1)) hx hb dX4_lawPart_5 (by decide) ?_
  obtain ⟨σ3, hc2, hf⟩ := cv_e hf
  refine r_cVv (n := 2) (As := [.int a0, .int (-1)]) (rest := []) C (c_fX9_beginLine hw1 hj σ H.size a0 (-1) hc2) (oW hw1) rfl gv_RX4_129 (by decide +kernel) (rmD_le (by decide) (by decide)) rfl rfl (Nat.le_of_ble_eq_true rfl) dX4_lawPart_6 hP hS hl.1 (fun H locs hP hS => ?_)
  refine lv_aload_n hx hb dX4_lawPart_9 rfl (lv_at hl 0 rfl) ?_
  obtain ⟨r4, σ6, hc5, hf⟩ := cb_e hf
  refine r_cVi (n := 0) (As := []) (rest := []) C (c_fX4_sum hj σ3 H.size hc5) oC_24 rfl gv_RX4_133 (by decide +kernel) (rmD_le (by decide) (by decide)) rfl rfl (Nat.le_of_ble_eq_true rfl) dX4_lawPart_10 hP hS hl.1 (fun H locs hP hS => ?_)
  obtain ⟨hz, hf⟩ := zb_e hf
  cases hf
  exact r_zret C (zb_nar hz) hP hS dX4_lawPart_13
