def fX4_line_116 (σ : St) : Option (Int32 × St) :=
(cb (fX4_take σ 59) fun r1 σ3 =>
(if r1 = 0 then
(cb (fX4_fail σ3 1) fun r8 σ10 =>
(zb r8 (some (r8, σ10))))
else
(gw (σ3 24 7) fun w5 =>
(cv (fX9_endLine w5 σ3) fun σ7 =>
some (1, σ7)))))
set_option maxHeartbeats 4000000 in
theorem b_fX4_line_116 {E : Ev} {l : Launch} {p : Program} {e : Env} {s : State} {m : MethodId} {args : Array Value} {below : List Frame} {meth : Method} {c : Code} (C : CX true E RX4 cX4_line 2 (some .boolean) p s m args meth c) {rr : Int32} {sr : St} : ∀ (σ : St), fX4_line_116 σ = some (rr, sr) → GW true l (rmD 42) E 2 p e s m args below meth c (MQ below (QI true E rr sr s.heap.size) args s 0 0 (aW true E s.heap.size)) σ 116 [(0, .ref (ea E 24))] [] := by
  intro σ hf H locs ls hP hS hl
  obtain ⟨hx, hb, hr, hml, hown, hts, hlocks, hK, hX, hj⟩ := id C
  unfold fX4_line_116 at hf
  refine lv_aload_n hx hb dX4_line_116 rfl (lv_at hl 0 rfl) ?_
  refine lv_bipush (v := 59) hx hb dX4_line_117 (by decide) ?_
  obtain ⟨r1, σ3, hc2, hf⟩ := cb_e hf
  refine r_cVi (n := 1) (As := [.int 59]) (rest := []) C (c_fX4_take hj σ H.size 59 hc2) oC_24 rfl gv_RX4_120 (by decide +kernel) (rmD_le (by decide) (by decide)) rfl rfl (Nat.le_of_ble_eq_true rfl) dX4_line_119 hP hS hl.1 (fun H locs hP hS => ?_)
  refine lv_if_ne (tgt := 131) hx hb dX4_line_122 (by decide) (fun c4 => ?_) (fun c4 => ?_)
  · replace hf := it_f c4 hf
    refine lv_aload_n hx hb dX4_line_131 rfl (lv_at hl 0 rfl) ?_
    refine r_get (k := 7) (v := .ref (ea E (σ3 24 7).toNatClampNeg)) C hP oC_24 rfl iX4 (by decide) wm_t169 rfl rfl dX4_line_132 ?_
    obtain ⟨w5, ew5, hw5, hf⟩ := gw_e hf
    rw [ew5]
    obtain ⟨σ7, hc6, hf⟩ := cv_e hf
    refine r_cVv (n := 0) (As := []) (rest := []) C (c_fX9_endLine hw5 hj σ3 H.size hc6) (oW hw5) rfl gv_RX4_126 (by decide +kernel) (rmD_le (by decide) (by decide)) rfl rfl (Nat.le_of_ble_eq_true rfl) dX4_line_135 hP hS hl.1 (fun H locs hP hS => ?_)
    refine lv_iconst (v := 1) hx hb dX4_line_138 (by decide) ?_
    cases hf
    exact r_zret C rfl hP hS dX4_line_139
  · replace hf := it_t c4 hf
    refine lv_aload_n hx hb dX4_line_125 rfl (lv_at hl 0 rfl) ?_
    refine lv_iconst (v := 1) hx hb dX4_line_126 (by decide) ?_
    obtain ⟨r8, σ10, hc9, hf⟩ := cb_e hf
    refine r_cVi (n := 1) (As := [.int 1]) (rest := []) C (c_fX4_fail hj σ3 H.size 1 hc9) oC_24 rfl gv_RX4_105 (by decide +kernel) (rmD_le (by decide) (by decide)) rfl rfl (Nat.le_of_ble_eq_true rfl) dX4_line_127 hP hS hl.1 (fun H locs hP hS => ?_)
    obtain ⟨hz, hf⟩ := zb_e hf
    cases hf
    exact r_zret C (zb_nar hz) hP hS dX4_line_130
def fX4_line_76 (σ : St) : Option (Int32 × St) :=
(gw (σ 24 7) fun w1 =>
(cv (fX9_beginWhen w1 σ) fun σ3 =>
(cb (fX4_take σ3 256) fun r4 σ6 =>
(if r4 = 0 then
(if (σ6 24 6) = 0 then
(cb (fX4_fail σ6 1) fun r9 σ11 =>
(zb r9 (some (r9, σ11))))
else
fX4_line_116 σ6)
else
(cb (fX4_claimsT σ6 0) fun r12 σ14 =>
(if r12 = 0 then
some (0, σ14)
else
fX4_line_116 σ14))))))
set_option maxHeartbeats 4000000 in
theorem b_fX4_line_76 {E : Ev} {l : Launch} {p : Program} {e : Env} {s : State} {m : MethodId} {args : Array Value} {below : List Frame} {meth : Method} {c : Code} (C : CX true E RX4 cX4_line 2 (some .boolean) p s m args meth c) {rr : Int32} {sr : St} : ∀ (σ : St), fX4_line_76 σ = some (rr, sr) → GW true l (rmD 42) E 2 p e s m args below meth c (MQ below (QI true E rr sr s.heap.size) args s 0 0 (aW true E s.heap.size)) σ 76 [(0, .ref (ea E 24))] [] := by
  intro σ hf H locs ls hP hS hl
  obtain ⟨hx, hb, hr, hml, hown, hts, hlocks, hK, hX, hj⟩ := id C
  unfold fX4_line_76 at hf
  refine lv_aload_n hx hb dX4_line_76 rfl (lv_at hl 0 rfl) ?_
  refine r_get (k := 7) (v := .ref (ea E (σ 24 7).toNatClampNeg)) C hP oC_24 rfl iX4 (by decide) wm_t169 rfl rfl dX4_line_77 ?_
  obtain ⟨w1, ew1, hw1, hf⟩ := gw_e hf
  rw [ew1]
  obtain ⟨σ3, hc2, hf⟩ := cv_e hf
  refine r_cVv (n := 0) (As := []) (rest := []) C (c_fX9_beginWhen hw1 hj σ H.size hc2) (oW hw1) rfl gv_RX4_117 (by decide +kernel) (rmD_le (by decide) (by decide)) rfl rfl (Nat.le_of_ble_eq_true rfl) dX4_line_80 hP hS hl.1 (fun H locs hP hS => ?_)
  refine lv_aload_n hx hb dX4_line_83 rfl (lv_at hl 0 rfl) ?_
  refine lv_sipush (v := 256) hx hb dX4_line_84 (by decide) ?_
  obtain ⟨r4, σ6, hc5, hf⟩ := cb_e hf
  refine r_cVi (n := 1) (As := [.int 256]) (rest := []) C (c_fX4_take hj σ3 H.size 256 hc5) oC_24 rfl gv_RX4_120 (by decide +kernel) (rmD_le (by decide) (by decide)) rfl rfl (Nat.le_of_ble_eq_true rfl) dX4_line_87 hP hS hl.1 (fun H locs hP hS => ?_)
  refine lv_if_eq (tgt := 103) hx hb dX4_line_90 (by decide) (fun c7 => ?_) (fun c7 => ?_)
  · replace hf := it_t c7 hf
    refine lv_aload_n hx hb dX4_line_103 rfl (lv_at hl 0 rfl) ?_
    refine r_get (k := 6) (v := .int (σ6 24 6)) C hP oC_24 rfl iX4 (by decide) wm_t168 rfl rfl dX4_line_104 ?_
    refine lv_if_ne (tgt := 116) hx hb dX4_line_107 (by decide) (fun c8 => ?_) (fun c8 => ?_)
    · replace hf := it_f c8 hf
      exact b_fX4_line_116 C σ6 hf H locs ls hP hS (lv_sub hl [0] rfl)
    · replace hf := it_t c8 hf
      refine lv_aload_n hx hb dX4_line_110 rfl (lv_at hl 0 rfl) ?_
      refine lv_iconst (v := 1) hx hb dX4_line_111 (by decide) ?_
      obtain ⟨r9, σ11, hc10, hf⟩ := cb_e hf
      refine r_cVi (n := 1) (As := [.int 1]) (rest := []) C (c_fX4_fail hj σ6 H.size 1 hc10) oC_24 rfl gv_RX4_105 (by decide +kernel) (rmD_le (by decide) (by decide)) rfl rfl (Nat.le_of_ble_eq_true rfl) dX4_line_112 hP hS hl.1 (fun H locs hP hS => ?_)
      obtain ⟨hz, hf⟩ := zb_e hf
      cases hf
      exact r_zret C (zb_nar hz) hP hS dX4_line_115
  · replace hf := it_f c7 hf
    refine lv_aload_n hx hb dX4_line_93 rfl (lv_at hl 0 rfl) ?_
    refine lv_iconst (v := 0) hx hb dX4_line_94 (by decide) ?_
    obtain ⟨r12, σ14, hc13, hf⟩ := cb_e hf
    refine r_cVi (n := 1) (As := [.int 0]) (rest := []) C (c_fX4_claimsT hj σ6 H.size 0 hc13) oC_24 rfl gv_RX4_123 (by decide +kernel) (rmD_le (by decide) (by decide)) rfl rfl (Nat.le_of_ble_eq_true rfl) dX4_line_95 hP hS hl.1 (fun H locs hP hS => ?_)
    refine lv_if_ne (tgt := 116) hx hb dX4_line_98 (by decide) (fun c15 => ?_) (fun c15 => ?_)
    · replace hf := it_f c15 hf
      exact b_fX4_line_116 C σ14 hf H locs ls hP hS (lv_sub hl [0] rfl)
    · replace hf := it_t c15 hf
      refine lv_iconst (v := 0) hx hb dX4_line_101 (by decide) ?_
      cases hf
      exact r_zret C rfl hP hS dX4_line_102
def fX4_line (σ : St) : Option (Int32 × St) :=
(if (fX10_within ((σ 24 5) - 260) (fX4_headKinds σ)) = 0 then
(cb (fX4_fail σ 1) fun r18 σ20 =>
(zb r18 (some (r18, σ20))))
else
(gw (σ 24 7) fun w2 =>
(if (σ w2 0) < 16 then
(cv (fX4_advance σ) fun σ5 =>
(if (σ5 24 6) = 0 then
(cb (fX4_personPart σ5 ((σ 24 5) - 260)) fun r7 σ9 =>
(if r7 = 0 then
some (0, σ9)
else
fX4_line_76 σ9))
else
(cb (fX4_lawPart σ5 ((σ 24 5) - 260)) fun r11 σ13 =>
(if r11 = 0 then
some (0, σ13)
else
fX4_line_76 σ13))))
else
(cb (fX4_fail σ 3) fun r15 σ17 =>
(zb r15 (some (r15, σ17)))))))
set_option maxHeartbeats 4000000 in
theorem c_fX4_line {E : Ev} {l : Launch} (hj : jW true E) (σ : St) (sz : Nat) {rr : Int32} {sr : St} (hf : fX4_line σ = some (rr, sr)) : Met l yX4_line (Cond.code yX4_line cX4_line 2 (some .boolean) :: gT) (rmD 42) (va_Pc [.ref (ea E 24)] (preW true E σ sz)) (QI true E rr sr sz) 0 0 (aW true E sz) := by
  refine r_entry (QI true E rr sr) hj (by decide) [.ref (ea E 24)] (Nat.le_of_ble_eq_true rfl) (fun p e s m args below meth c C => ?_)
  intro H locs ls hP hS hl
  have hl : lv_has ls 2 [(0, .ref (ea E 24))] := hl
  obtain ⟨hx, hb, hr, hml, hown, hts, hlocks, hK, hX, hj⟩ := id C
  unfold fX4_line at hf
  refine lv_aload_n hx hb dX4_line_0 rfl (lv_at hl 0 rfl) ?_
  refine r_get (k := 5) (v := .int (σ 24 5)) C hP oC_24 rfl iX4 (by decide) wm_t167 rfl rfl dX4_line_1 ?_
  refine lv_sipush (v := 260) hx hb dX4_line_4 (by decide) ?_
  refine lv_isub hx hb dX4_line_7 ?_
  refine lv_istore_n (lv' := [(1, .int ((σ 24 5) - 260)), (0, .ref (ea E 24))]) hx hb dX4_line_8 rfl hl (by decide) rfl (fun ls hl => ?_)
  refine lv_iload_n hx hb dX4_line_9 rfl (lv_at hl 0 rfl) ?_
  refine lv_aload_n hx hb dX4_line_10 rfl (lv_at hl 1 rfl) ?_
  refine r_cVi (n := 0) (As := []) (rest := [.int ((σ 24 5) - 260)]) C (c_fX4_headKinds hj σ H.size) oC_24 rfl gv_RX4_98 (by decide +kernel) (rmD_le (by decide) (by decide)) rfl rfl (Nat.le_of_ble_eq_true rfl) dX4_line_11 hP hS hl.1 (fun H locs hP hS => ?_)
  refine r_cNi (n := 2) (As := [.int ((σ 24 5) - 260), .int (fX4_headKinds σ)]) (rest := []) (host := "SoupCargo") C (c_fX10_within hj σ H.size ((σ 24 5) - 260) (fX4_headKinds σ)) (by decide +kernel) wm_t343 wm_t1 wm_t342 (by decide +kernel) (rmD_le (by decide) (by decide)) rfl rfl (Nat.le_of_ble_eq_true rfl) dX4_line_14 hP hS hl.1 (fun H locs hP hS => ?_)
  refine lv_if_ne (tgt := 26) hx hb dX4_line_17 (by decide) (fun c1 => ?_) (fun c1 => ?_)
  · replace hf := it_f c1 hf
    refine lv_aload_n hx hb dX4_line_26 rfl (lv_at hl 1 rfl) ?_
    refine r_get (k := 7) (v := .ref (ea E (σ 24 7).toNatClampNeg)) C hP oC_24 rfl iX4 (by decide) wm_t169 rfl rfl dX4_line_27 ?_
    obtain ⟨w2, ew2, hw2, hf⟩ := gw_e hf
    rw [ew2]
    refine r_get (k := 0) (v := .int (σ w2 0)) C hP (oW hw2) rfl iX9 (by decide) wm_t137 rfl rfl dX4_line_30 ?_
    refine lv_bipush (v := 16) hx hb dX4_line_33 (by decide) ?_
    refine lv_icmp_lt (tgt := 44) hx hb dX4_line_35 (by decide) (fun c3 => ?_) (fun c3 => ?_)
    · replace hf := it_t c3 hf
      refine lv_aload_n hx hb dX4_line_44 rfl (lv_at hl 1 rfl) ?_
      obtain ⟨σ5, hc4, hf⟩ := cv_e hf
      refine r_cVv (n := 0) (As := []) (rest := []) C (c_fX4_advance hj σ H.size hc4) oC_24 rfl gv_RX4_95 (by decide +kernel) (rmD_le (by decide) (by decide)) rfl rfl (Nat.le_of_ble_eq_true rfl) dX4_line_45 hP hS hl.1 (fun H locs hP hS => ?_)
      refine lv_aload_n hx hb dX4_line_48 rfl (lv_at hl 1 rfl) ?_
      refine r_get (k := 6) (v := .int (σ5 24 6)) C hP oC_24 rfl iX4 (by decide) wm_t168 rfl rfl dX4_line_49 ?_
      refine lv_if_eq (tgt := 66) hx hb dX4_line_52 (by decide) (fun c6 => ?_) (fun c6 => ?_)
      · replace hf := it_t c6 hf
        refine lv_aload_n hx hb dX4_line_66 rfl (lv_at hl 1 rfl) ?_
        refine lv_iload_n hx hb dX4_line_67 rfl (lv_at hl 0 rfl) ?_
        obtain ⟨r7, σ9, hc8, hf⟩ := cb_e hf
        refine r_cVi (n := 1) (As := [.int ((σ 24 5) - 260)]) (rest := []) C (c_fX4_personPart hj σ5 H.size ((σ 24 5) - 260) hc8) oC_24 rfl gv_RX4_114 (by decide +kernel) (rmD_le (by decide) (by decide)) rfl rfl (Nat.le_of_ble_eq_true rfl) dX4_line_68 hP hS hl.1 (fun H locs hP hS => ?_)
        refine lv_if_ne (tgt := 76) hx hb dX4_line_71 (by decide) (fun c10 => ?_) (fun c10 => ?_)
        · replace hf := it_f c10 hf
          exact b_fX4_line_76 C σ9 hf H locs ls hP hS (lv_sub hl [1] rfl)
        · replace hf := it_t c10 hf
          refine lv_iconst (v := 0) hx hb dX4_line_74 (by decide) ?_
          cases hf
          exact r_zret C rfl hP hS dX4_line_75
      · replace hf := it_f c6 hf
        refine lv_aload_n hx hb dX4_line_55 rfl (lv_at hl 1 rfl) ?_
        refine lv_iload_n hx hb dX4_line_56 rfl (lv_at hl 0 rfl) ?_
        obtain ⟨r11, σ13, hc12, hf⟩ := cb_e hf
        refine r_cVi (n := 1) (As := [.int ((σ 24 5) - 260)]) (rest := []) C (c_fX4_lawPart hj σ5 H.size ((σ 24 5) - 260) hc12) oC_24 rfl gv_RX4_111 (by decide +kernel) (rmD_le (by decide) (by decide)) rfl rfl (Nat.le_of_ble_eq_true rfl) dX4_line_57 hP hS hl.1 (fun H locs hP hS => ?_)
        refine lv_if_eq (tgt := 74) hx hb dX4_line_60 (by decide) (fun c14 => ?_) (fun c14 => ?_)
        · replace hf := it_t c14 hf
          refine lv_iconst (v := 0) hx hb dX4_line_74 (by decide) ?_
          cases hf
          exact r_zret C rfl hP hS dX4_line_75
        · replace hf := it_f c14 hf
          refine lv_goto (tgt := 76) hx hb dX4_line_63 (by decide) ?_
          exact b_fX4_line_76 C σ13 hf H locs ls hP hS (lv_sub hl [1] rfl)
    · replace hf := it_f c3 hf
      refine lv_aload_n hx hb dX4_line_38 rfl (lv_at hl 1 rfl) ?_
      refine lv_iconst (v := 3) hx hb dX4_line_39 (by decide) ?_
      obtain ⟨r15, σ17, hc16, hf⟩ := cb_e hf
      refine r_cVi (n := 1) (As := [.int 3]) (rest := []) C (c_fX4_fail hj σ H.size 3 hc16) oC_24 rfl gv_RX4_105 (by decide +kernel) (rmD_le (by decide) (by decide)) rfl rfl (Nat.le_of_ble_eq_true rfl) dX4_line_40 hP hS hl.1 (fun H locs hP hS => ?_)
      obtain ⟨hz, hf⟩ := zb_e hf
      cases hf
      exact r_zret C (zb_nar hz) hP hS dX4_line_43
  · replace hf := it_t c1 hf
    refine lv_aload_n hx hb dX4_line_20 rfl (lv_at hl 1 rfl) ?_
    refine lv_iconst (v := 1) hx hb dX4_line_21 (by decide) ?_
    obtain ⟨r18, σ20, hc19, hf⟩ := cb_e hf
    refine r_cVi (n := 1) (As := [.int 1]) (rest := []) C (c_fX4_fail hj σ H.size 1 hc19) oC_24 rfl gv_RX4_105 (by decide +kernel) (rmD_le (by decide) (by decide)) rfl rfl (Nat.le_of_ble_eq_true rfl) dX4_line_22 hP hS hl.1 (fun H locs hP hS => ?_)
    obtain ⟨hz, hf⟩ := zb_e hf
    cases hf
    exact r_zret C (zb_nar hz) hP hS dX4_line_25
def fX4_readTape_50B (rec50 : St → Int32 → Int32 → Option (Int32 × St)) (σ : St) (x2 : Int32) (x3 : Int32) : Option (Int32 × St) :=
(if 600 < x3 then
(zb x2 (some (x2, σ)))
else
(if x2 = 0 then
(zb x2 (some (x2, σ)))
else
(if (σ 24 5) = 0 then
(zb x2 (some (x2, σ)))
else
(cb (fX4_line σ) fun r4 σ6 =>
rec50 σ6 r4 (x3 + 1)))))
set_option maxHeartbeats 4000000 in
theorem b_fX4_readTape_50B {E : Ev} {l : Launch} {p : Program} {e : Env} {s : State} {m : MethodId} {args : Array Value} {below : List Frame} {meth : Method} {c : Code} (C : CX true E RX4 cX4_readTape 4 (some .boolean) p s m args meth c) {rr : Int32} {sr : St} (rec50 : St → Int32 → Int32 → Option (Int32 × St)) (hr50 : ∀ (σ : St) (x2 : Int32) (x3 : Int32), rec50 σ x2 x3 = some (rr, sr) → GW true l (rmD 43) E 4 p e s m args below meth c (MQ below (QI true E rr sr s.heap.size) args s 0 0 (aW true E s.heap.size)) σ 50 [(0, .ref (ea E 24)), (2, .int x2), (3, .int x3)] []) : ∀ (σ : St) (x2 : Int32) (x3 : Int32), fX4_readTape_50B rec50 σ x2 x3 = some (rr, sr) → GW true l (rmD 43) E 4 p e s m args below meth c (MQ below (QI true E rr sr s.heap.size) args s 0 0 (aW true E s.heap.size)) σ 50 [(0, .ref (ea E 24)), (2, .int x2), (3, .int x3)] [] := by
  intro σ x2 x3 hf H locs ls hP hS hl
  obtain ⟨hx, hb, hr, hml, hown, hts, hlocks, hK, hX, hj⟩ := id C
  unfold fX4_readTape_50B at hf
  refine lv_iload_n hx hb dX4_readTape_50 rfl (lv_at hl 2 rfl) ?_
  refine lv_sipush (v := 600) hx hb dX4_readTape_51 (by decide) ?_
  refine lv_icmp_gt (tgt := 79) hx hb dX4_readTape_54 (by decide) (fun c1 => ?_) (fun c1 => ?_)
  · replace hf := it_t c1 hf
    refine lv_iload_n hx hb dX4_readTape_79 rfl (lv_at hl 1 rfl) ?_
    obtain ⟨hz, hf⟩ := zb_e hf
    cases hf
    exact r_zret C (zb_nar hz) hP hS dX4_readTape_80
  · replace hf := it_f c1 hf
    refine lv_iload_n hx hb dX4_readTape_57 rfl (lv_at hl 1 rfl) ?_
    refine lv_if_eq (tgt := 79) hx hb dX4_readTape_58 (by decide) (fun c2 => ?_) (fun c2 => ?_)
    · replace hf := it_t c2 hf
      refine lv_iload_n hx hb dX4_readTape_79 rfl (lv_at hl 1 rfl) ?_
      obtain ⟨hz, hf⟩ := zb_e hf
      cases hf
      exact r_zret C (zb_nar hz) hP hS dX4_readTape_80
    · replace hf := it_f c2 hf
      refine lv_aload_n hx hb dX4_readTape_61 rfl (lv_at hl 0 rfl) ?_
      refine r_get (k := 5) (v := .int (σ 24 5)) C hP oC_24 rfl iX4 (by decide) wm_t167 rfl rfl dX4_readTape_62 ?_
      refine lv_if_eq (tgt := 79) hx hb dX4_readTape_65 (by decide) (fun c3 => ?_) (fun c3 => ?_)
      · replace hf := it_t c3 hf
        refine lv_iload_n hx hb dX4_readTape_79 rfl (lv_at hl 1 rfl) ?_
        obtain ⟨hz, hf⟩ := zb_e hf
        cases hf
        exact r_zret C (zb_nar hz) hP hS dX4_readTape_80
      · replace hf := it_f c3 hf
        refine lv_aload_n hx hb dX4_readTape_68 rfl (lv_at hl 0 rfl) ?_
        obtain ⟨r4, σ6, hc5, hf⟩ := cb_e hf
        refine r_cVi (n := 0) (As := []) (rest := []) C (c_fX4_line hj σ H.size hc5) oC_24 rfl gv_RX4_54 (by decide +kernel) (rmD_le (by decide) (by decide)) rfl rfl (Nat.le_of_ble_eq_true rfl) dX4_readTape_69 hP hS hl.1 (fun H locs hP hS => ?_)
        refine lv_istore_n (lv' := [(2, .int r4), (0, .ref (ea E 24)), (3, .int x3)]) hx hb dX4_readTape_72 rfl hl (by decide) rfl (fun ls hl => ?_)
        refine lv_iinc (v := (x3 + 1)) (lv' := [(3, .int (x3 + 1)), (2, .int r4), (0, .ref (ea E 24))]) hx hb dX4_readTape_73 hl (k := 2) rfl rfl (by decide) rfl (fun ls hl => ?_)
        refine lv_goto (tgt := 50) hx hb dX4_readTape_76 (by decide) ?_
        exact hr50 σ6 r4 (x3 + 1) hf H locs ls hP hS (lv_sub hl [2, 1, 0] rfl)
def fX4_readTape_50 : Nat → St → Int32 → Int32 → Option (Int32 × St)
  | 0 => fun _ _ _ => none
  | n + 1 => fun σ x2 x3 => fX4_readTape_50B (fX4_readTape_50 n) σ x2 x3
theorem b_fX4_readTape_50 {E : Ev} {l : Launch} {p : Program} {e : Env} {s : State} {m : MethodId} {args : Array Value} {below : List Frame} {meth : Method} {c : Code} (C : CX true E RX4 cX4_readTape 4 (some .boolean) p s m args meth c) {rr : Int32} {sr : St} : ∀ (n : Nat) (σ : St) (x2 : Int32) (x3 : Int32), fX4_readTape_50 n σ x2 x3 = some (rr, sr) → GW true l (rmD 43) E 4 p e s m args below meth c (MQ below (QI true E rr sr s.heap.size) args s 0 0 (aW true E s.heap.size)) σ 50 [(0, .ref (ea E 24)), (2, .int x2), (3, .int x3)] [] := by
  intro n
  induction n with
  | zero => intro σ x2 x3 hf; have hf : (none : Option _) = some _ := hf; cases hf
  | succ n ih => intro σ x2 x3 hf; exact b_fX4_readTape_50B C (fX4_readTape_50 n) ih σ x2 x3 hf
def fX4_readTape (σ : St) (a0 : Int32) : Option (Int32 × St) :=
(zb a0 (
(nmS (st_put σ 24 6 a0) fun σ2 =>
(nmS (st_put σ2 24 8 0) fun σ3 =>
(nmS (st_put σ3 24 9 (-1)) fun σ4 =>
(gw (σ4 24 7) fun w5 =>
(cv (fX9_clear w5 σ4) fun σ7 =>
(cv (fX4_scan σ7) fun σ9 =>
(nmS (st_put σ9 24 1 0) fun σ10 =>
(nmS (st_put σ10 24 4 0) fun σ11 =>
(rdK 601 (σ11 26) 0 fun v12 =>
(nmS (st_put σ11 24 5 v12) fun σ14 =>
fX4_readTape_50 FU σ14 1 0))))))))))))
set_option maxHeartbeats 4000000 in
theorem c_fX4_readTape {E : Ev} {l : Launch} (hj : jW true E) (σ : St) (sz : Nat) (a0 : Int32) {rr : Int32} {sr : St} (hf : fX4_readTape σ a0 = some (rr, sr)) : Met l yX4_readTape (Cond.code yX4_readTape cX4_readTape 4 (some .boolean) :: gT) (rmD 43) (va_Pc [.ref (ea E 24), .int a0] (preW true E σ sz)) (QI true E rr sr sz) 0 0 (aW true E sz) := by
  refine r_entry (QI true E rr sr) hj (by decide) [.ref (ea E 24), .int a0] (Nat.le_of_ble_eq_true rfl) (fun p e s m args below meth c C => ?_)
  intro H locs ls hP hS hl
  have hl : lv_has ls 4 [(0, .ref (ea E 24)), (1, .int a0)] := hl
  obtain ⟨hx, hb, hr, hml, hown, hts, hlocks, hK, hX, hj⟩ := id C
  unfold fX4_readTape at hf
  refine lv_aload_n hx hb dX4_readTape_0 rfl (lv_at hl 0 rfl) ?_
  refine lv_iload_n hx hb dX4_readTape_1 rfl (lv_at hl 1 rfl) ?_
  obtain ⟨h1, hf⟩ := zb_e hf
  refine r_put (k := 6) (x := a0) C hP hS tyX4 tyX4_ok nmX4 oC_24 rfl iX4 (by decide) wm_t168 rfl rfl sC_24_6 (zb_nar h1) (zb_fit h1) (Nat.le_of_ble_eq_true rfl) dX4_readTape_2 (fun H locs hP hS => ?_)
  obtain ⟨σ2, eσ2, hf⟩ := nmS_e hf
  rw [← eσ2] at hP
  refine lv_aload_n hx hb dX4_readTape_5 rfl (lv_at hl 0 rfl) ?_
  refine lv_iconst (v := 0) hx hb dX4_readTape_6 (by decide) ?_
  refine r_put (k := 8) (x := 0) C hP hS tyX4 tyX4_ok nmX4 oC_24 rfl iX4 (by decide) wm_t170 rfl rfl sC_24_8 rfl rfl (Nat.le_of_ble_eq_true rfl) dX4_readTape_7 (fun H locs hP hS => ?_)
  obtain ⟨σ3, eσ3, hf⟩ := nmS_e hf
  rw [← eσ3] at hP
  refine lv_aload_n hx hb dX4_readTape_10 rfl (lv_at hl 0 rfl) ?_
  refine lv_iconst (v := (-1)) hx hb dX4_readTape_11 (by decide) ?_
  refine r_put (k := 9) (x := (-1)) C hP hS tyX4 tyX4_ok nmX4 oC_24 rfl iX4 (by decide) wm_t172 rfl rfl sC_24_9 rfl rfl (Nat.le_of_ble_eq_true rfl) dX4_readTape_12 (fun H locs hP hS => ?_)
  obtain ⟨σ4, eσ4, hf⟩ := nmS_e hf
  rw [← eσ4] at hP
  refine lv_aload_n hx hb dX4_readTape_15 rfl (lv_at hl 0 rfl) ?_
  refine r_get (k := 7) (v := .ref (ea E (σ4 24 7).toNatClampNeg)) C hP oC_24 rfl iX4 (by decide) wm_t169 rfl rfl dX4_readTape_16 ?_
  obtain ⟨w5, ew5, hw5, hf⟩ := gw_e hf
  rw [ew5]
  obtain ⟨σ7, hc6, hf⟩ := cv_e hf
  refine r_cVv (n := 0) (As := []) (rest := []) C (c_fX9_clear hw5 hj σ4 H.size hc6) (oW hw5) rfl gv_RX4_42 (by decide +kernel) (rmD_le (by decide) (by decide)) rfl rfl (Nat.le_of_ble_eq_true rfl) dX4_readTape_19 hP hS hl.1 (fun H locs hP hS => ?_)
  refine lv_aload_n hx hb dX4_readTape_22 rfl (lv_at hl 0 rfl) ?_
  obtain ⟨σ9, hc8, hf⟩ := cv_e hf
  refine r_cVv (n := 0) (As := []) (rest := []) C (c_fX4_scan hj σ7 H.size hc8) oC_24 rfl gv_RX4_45 (by decide +kernel) (rmD_le (by decide) (by decide)) rfl rfl (Nat.le_of_ble_eq_true rfl) dX4_readTape_23 hP hS hl.1 (fun H locs hP hS => ?_)
  refine lv_aload_n hx hb dX4_readTape_26 rfl (lv_at hl 0 rfl) ?_
  refine lv_iconst (v := 0) hx hb dX4_readTape_27 (by decide) ?_
  refine r_put (k := 1) (x := 0) C hP hS tyX4 tyX4_ok nmX4 oC_24 rfl iX4 (by decide) wm_t163 rfl rfl sC_24_1 rfl rfl (Nat.le_of_ble_eq_true rfl) dX4_readTape_28 (fun H locs hP hS => ?_)
  obtain ⟨σ10, eσ10, hf⟩ := nmS_e hf
  rw [← eσ10] at hP
  refine lv_aload_n hx hb dX4_readTape_31 rfl (lv_at hl 0 rfl) ?_
  refine lv_iconst (v := 0) hx hb dX4_readTape_32 (by decide) ?_
  refine r_put (k := 4) (x := 0) C hP hS tyX4 tyX4_ok nmX4 oC_24 rfl iX4 (by decide) wm_t166 rfl rfl sC_24_4 rfl rfl (Nat.le_of_ble_eq_true rfl) dX4_readTape_33 (fun H locs hP hS => ?_)
  obtain ⟨σ11, eσ11, hf⟩ := nmS_e hf
  rw [← eσ11] at hP
  refine lv_aload_n hx hb dX4_readTape_36 rfl (lv_at hl 0 rfl) ?_
  refine lv_aload_n hx hb dX4_readTape_37 rfl (lv_at hl 0 rfl) ?_
  refine r_get (k := 2) (v := .ref (ea E 26)) C hP oC_24 rfl iX4 (by decide) wm_t164 rfl rfl dX4_readTape_38 ?_
  refine lv_iconst (v := 0) hx hb dX4_readTape_41 (by decide) ?_
  have h13 := (rdK_e hf).1
  refine r_ald C hP aC_26 h13 dX4_readTape_42 ?_
  refine lv_topi (fun v12 ev12 => ?_)
  replace hf := rdK_n ev12 hf
  refine r_put (k := 5) (x := v12) C hP hS tyX4 tyX4_ok nmX4 oC_24 rfl iX4 (by decide) wm_t167 rfl rfl sC_24_5 rfl rfl (Nat.le_of_ble_eq_true rfl) dX4_readTape_43 (fun H locs hP hS => ?_)
  obtain ⟨σ14, eσ14, hf⟩ := nmS_e hf
  rw [← eσ14] at hP
  refine lv_iconst (v := 1) hx hb dX4_readTape_46 (by decide) ?_
  refine lv_istore_n (lv' := [(2, .int 1), (0, .ref (ea E 24)), (1, .int a0)]) hx hb dX4_readTape_47 rfl hl (by decide) rfl (fun ls hl => ?_)
  refine lv_iconst (v := 0) hx hb dX4_readTape_48 (by decide) ?_
  refine lv_istore_n (lv' := [(3, .int 0), (2, .int 1), (0, .ref (ea E 24)), (1, .int a0)]) hx hb dX4_readTape_49 rfl hl (by decide) rfl (fun ls hl => ?_)
  exact b_fX4_readTape_50 C FU σ14 1 0 hf H locs ls hP hS (lv_sub hl [2, 1, 0] rfl)
def fX10_laws (σ : St) : Option (Int32 × St) :=
(cb (fX4_readTape σ 1) fun r1 σ3 =>
(if r1 = 0 then
some ((-1), σ3)
else
(gw (σ3 28 0) fun w5 =>
(cr (fX4_exchange w5 σ3) fun w6 σ8 =>
(nmS (st_put σ8 28 0 (nI w6)) fun σ9 =>
(gw (σ9 28 0) fun w10 =>
some ((σ9 w10 0), σ9)))))))
set_option maxHeartbeats 4000000 in
theorem c_fX10_laws {E : Ev} {l : Launch} (hj : jW true E) (σ : St) (sz : Nat) {rr : Int32} {sr : St} (hf : fX10_laws σ = some (rr, sr)) : Met l yX10_laws (Cond.code yX10_laws cX10_laws 1 (some .int) :: gT) (rmD 44) (va_Pc [.ref (ea E 0)] (preW true E σ sz)) (QI true E rr sr sz) 0 0 (aW true E sz) := by
  refine r_entry (QI true E rr sr) hj (by decide) [.ref (ea E 0)] (Nat.le_of_ble_eq_true rfl) (fun p e s m args below meth c C => ?_)
  intro H locs ls hP hS hl
  have hl : lv_has ls 1 [(0, .ref (ea E 0))] := hl
  obtain ⟨hx, hb, hr, hml, hown, hts, hlocks, hK, hX, hj⟩ := id C
  unfold fX10_laws at hf
  refine lv_aload_n hx hb dX10_laws_0 rfl (lv_at hl 0 rfl) ?_
  refine r_get (k := 4) (v := .ref (ea E 24)) C hP oC_0 rfl iX10 (by decide) wm_t298 rfl rfl dX10_laws_1 ?_
  refine lv_iconst (v := 1) hx hb dX10_laws_4 (by decide) ?_
  obtain ⟨r1, σ3, hc2, hf⟩ := cb_e hf
  refine r_cVi (n := 1) (As := [.int 1]) (rest := []) C (c_fX4_readTape hj σ H.size 1 hc2) oC_24 rfl gv_RX10_137 (by decide +kernel) (rmD_le (by decide) (by decide)) rfl rfl (Nat.le_of_ble_eq_true rfl) dX10_laws_5 hP hS hl.1 (fun H locs hP hS => ?_)
  refine lv_if_ne (tgt := 13) hx hb dX10_laws_8 (by decide) (fun c4 => ?_) (fun c4 => ?_)
  · replace hf := it_f c4 hf
    refine lv_aload_n hx hb dX10_laws_13 rfl (lv_at hl 0 rfl) ?_
    refine r_get (k := 5) (v := .ref (ea E 28)) C hP oC_0 rfl iX10 (by decide) wm_t299 rfl rfl dX10_laws_14 ?_
    refine lv_aload_n hx hb dX10_laws_17 rfl (lv_at hl 0 rfl) ?_
    refine r_get (k := 4) (v := .ref (ea E 24)) C hP oC_0 rfl iX10 (by decide) wm_t298 rfl rfl dX10_laws_18 ?_
    refine lv_aload_n hx hb dX10_laws_21 rfl (lv_at hl 0 rfl) ?_
    refine r_get (k := 5) (v := .ref (ea E 28)) C hP oC_0 rfl iX10 (by decide) wm_t299 rfl rfl dX10_laws_22 ?_
    refine r_get (k := 0) (v := .ref (ea E (σ3 28 0).toNatClampNeg)) C hP oC_28 rfl iX2 (by decide) wm_t204 rfl rfl dX10_laws_25 ?_
    obtain ⟨w5, ew5, hw5, hf⟩ := gw_e hf
    rw [ew5]
    obtain ⟨w6, σ8, hc7, hf⟩ := cr_e hf
    refine r_cVr (n := 1) (As := [.ref (ea E w5)]) (rest := [.ref (ea E 28)]) C (c_fX4_exchange hw5 hj σ3 H.size hc7) oC_24 rfl gv_RX10_145 (by decide +kernel) (rmD_le (by decide) (by decide)) rfl rfl (Nat.le_of_ble_eq_true rfl) dX10_laws_28 hP hS hl.1 (fun H locs hP hS => ?_)
    refine r_put (k := 0) (x := (nI w6)) C hP hS tyX2 tyX2_ok nmX2 oC_28 rfl iX2 (by decide) wm_t204 rfl rfl (sC_28_0 (h_fX4_exchange hw5 hc7)) rfl rfl (Nat.le_of_ble_eq_true rfl) dX10_laws_31 (fun H locs hP hS => ?_)
    obtain ⟨σ9, eσ9, hf⟩ := nmS_e hf
    rw [← eσ9] at hP
    refine lv_aload_n hx hb dX10_laws_34 rfl (lv_at hl 0 rfl) ?_
    refine r_get (k := 5) (v := .ref (ea E 28)) C hP oC_0 rfl iX10 (by decide) wm_t299 rfl rfl dX10_laws_35 ?_
    refine r_get (k := 0) (v := .ref (ea E (σ9 28 0).toNatClampNeg)) C hP oC_28 rfl iX2 (by decide) wm_t204 rfl rfl dX10_laws_38 ?_
    obtain ⟨w10, ew10, hw10, hf⟩ := gw_e hf
    rw [ew10]
    refine r_get (k := 0) (v := .int (σ9 w10 0)) C hP (oW hw10) rfl iX9 (by decide) wm_t136 rfl rfl dX10_laws_41 ?_
    cases hf
    exact r_iret C hP hS dX10_laws_44
  · replace hf := it_t c4 hf
    refine lv_iconst (v := (-1)) hx hb dX10_laws_11 (by decide) ?_
    cases hf
    exact r_iret C hP hS dX10_laws_12
def fX10_code (σ : St) : Option (Int32 × St) :=
(cb (fX4_readTape σ 0) fun r1 σ3 =>
(if r1 = 0 then
some ((-1), σ3)
else
(gw (σ3 30 0) fun w5 =>
(cr (fX4_exchange w5 σ3) fun w6 σ8 =>
(nmS (st_put σ8 30 0 (nI w6)) fun σ9 =>
(nmS (st_put σ9 30 1 0) fun σ10 =>
(gw (σ10 30 0) fun w11 =>
some ((σ10 w11 0), σ10))))))))
set_option maxHeartbeats 4000000 in
theorem c_fX10_code {E : Ev} {l : Launch} (hj : jW true E) (σ : St) (sz : Nat) {rr : Int32} {sr : St} (hf : fX10_code σ = some (rr, sr)) : Met l yX10_code (Cond.code yX10_code cX10_code 1 (some .int) :: gT) (rmD 44) (va_Pc [.ref (ea E 0)] (preW true E σ sz)) (QI true E rr sr sz) 0 0 (aW true E sz) := by
  refine r_entry (QI true E rr sr) hj (by decide) [.ref (ea E 0)] (Nat.le_of_ble_eq_true rfl) (fun p e s m args below meth c C => ?_)
  intro H locs ls hP hS hl
  have hl : lv_has ls 1 [(0, .ref (ea E 0))] := hl
  obtain ⟨hx, hb, hr, hml, hown, hts, hlocks, hK, hX, hj⟩ := id C
  unfold fX10_code at hf
  refine lv_aload_n hx hb dX10_code_0 rfl (lv_at hl 0 rfl) ?_
  refine r_get (k := 4) (v := .ref (ea E 24)) C hP oC_0 rfl iX10 (by decide) wm_t298 rfl rfl dX10_code_1 ?_
  refine lv_iconst (v := 0) hx hb dX10_code_4 (by decide) ?_
  obtain ⟨r1, σ3, hc2, hf⟩ := cb_e hf
  refine r_cVi (n := 1) (As := [.int 0]) (rest := []) C (c_fX4_readTape hj σ H.size 0 hc2) oC_24 rfl gv_RX10_137 (by decide +kernel) (rmD_le (by decide) (by decide)) rfl rfl (Nat.le_of_ble_eq_true rfl) dX10_code_5 hP hS hl.1 (fun H locs hP hS => ?_)
  refine lv_if_ne (tgt := 13) hx hb dX10_code_8 (by decide) (fun c4 => ?_) (fun c4 => ?_)
  · replace hf := it_f c4 hf
    refine lv_aload_n hx hb dX10_code_13 rfl (lv_at hl 0 rfl) ?_
    refine r_get (k := 6) (v := .ref (ea E 30)) C hP oC_0 rfl iX10 (by decide) wm_t300 rfl rfl dX10_code_14 ?_
    refine lv_aload_n hx hb dX10_code_17 rfl (lv_at hl 0 rfl) ?_
    refine r_get (k := 4) (v := .ref (ea E 24)) C hP oC_0 rfl iX10 (by decide) wm_t298 rfl rfl dX10_code_18 ?_
    refine lv_aload_n hx hb dX10_code_21 rfl (lv_at hl 0 rfl) ?_
    refine r_get (k := 6) (v := .ref (ea E 30)) C hP oC_0 rfl iX10 (by decide) wm_t300 rfl rfl dX10_code_22 ?_
    refine r_get (k := 0) (v := .ref (ea E (σ3 30 0).toNatClampNeg)) C hP oC_30 rfl iX1 (by decide) wm_t224 rfl rfl dX10_code_25 ?_
    obtain ⟨w5, ew5, hw5, hf⟩ := gw_e hf
    rw [ew5]
    obtain ⟨w6, σ8, hc7, hf⟩ := cr_e hf
    refine r_cVr (n := 1) (As := [.ref (ea E w5)]) (rest := [.ref (ea E 30)]) C (c_fX4_exchange hw5 hj σ3 H.size hc7) oC_24 rfl gv_RX10_145 (by decide +kernel) (rmD_le (by decide) (by decide)) rfl rfl (Nat.le_of_ble_eq_true rfl) dX10_code_28 hP hS hl.1 (fun H locs hP hS => ?_)
    refine r_put (k := 0) (x := (nI w6)) C hP hS tyX1 tyX1_ok nmX1 oC_30 rfl iX1 (by decide) wm_t224 rfl rfl (sC_30_0 (h_fX4_exchange hw5 hc7)) rfl rfl (Nat.le_of_ble_eq_true rfl) dX10_code_31 (fun H locs hP hS => ?_)
    obtain ⟨σ9, eσ9, hf⟩ := nmS_e hf
    rw [← eσ9] at hP
    refine lv_aload_n hx hb dX10_code_34 rfl (lv_at hl 0 rfl) ?_
    refine r_get (k := 6) (v := .ref (ea E 30)) C hP oC_0 rfl iX10 (by decide) wm_t300 rfl rfl dX10_code_35 ?_
    refine lv_iconst (v := 0) hx hb dX10_code_38 (by decide) ?_
    refine r_put (k := 1) (x := 0) C hP hS tyX1 tyX1_ok nmX1 oC_30 rfl iX1 (by decide) wm_t226 rfl rfl sC_30_1 rfl rfl (Nat.le_of_ble_eq_true rfl) dX10_code_39 (fun H locs hP hS => ?_)
    obtain ⟨σ10, eσ10, hf⟩ := nmS_e hf
    rw [← eσ10] at hP
    refine lv_aload_n hx hb dX10_code_42 rfl (lv_at hl 0 rfl) ?_
    refine r_get (k := 6) (v := .ref (ea E 30)) C hP oC_0 rfl iX10 (by decide) wm_t300 rfl rfl dX10_code_43 ?_
    refine r_get (k := 0) (v := .ref (ea E (σ10 30 0).toNatClampNeg)) C hP oC_30 rfl iX1 (by decide) wm_t224 rfl rfl dX10_code_46 ?_
    obtain ⟨w11, ew11, hw11, hf⟩ := gw_e hf
    rw [ew11]
    refine r_get (k := 0) (v := .int (σ10 w11 0)) C hP (oW hw11) rfl iX9 (by decide) wm_t136 rfl rfl dX10_code_49 ?_
    cases hf
    exact r_iret C hP hS dX10_code_52
  · replace hf := it_t c4 hf
    refine lv_iconst (v := (-1)) hx hb dX10_code_11 (by decide) ?_
    cases hf
    exact r_iret C hP hS dX10_code_12
