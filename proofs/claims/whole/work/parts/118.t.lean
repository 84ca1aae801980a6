def fX10_staysTill_77 (σ : St) : Option (Int32 × St) :=
(if (σ 17 6) = (-1) then
some (1, σ)
else
some (0, σ))
set_option maxHeartbeats 4000000 in
theorem b_fX10_staysTill_77 {E : Ev} {l : Launch} {p : Program} {e : Env} {s : State} {m : MethodId} {args : Array Value} {below : List Frame} {meth : Method} {c : Code} (C : CX true E RX10 cX10_staysTill 3 (some .boolean) p s m args meth c) {rr : Int32} {sr : St} : ∀ (σ : St), fX10_staysTill_77 σ = some (rr, sr) → GW true l (rmD 8) E 3 p e s m args below meth c (MQ below (QI true E rr sr s.heap.size) args s 0 0 (aW true E s.heap.size)) σ 77 [(0, .ref (ea E 0))] [] := by
  intro σ hf H locs ls hP hS hl
  obtain ⟨hx, hb, hr, hml, hown, hts, hlocks, hK, hX, hj⟩ := id C
  unfold fX10_staysTill_77 at hf
  refine lv_aload_n hx hb dX10_staysTill_77 rfl (lv_at hl 0 rfl) ?_
  refine r_get (k := 3) (v := .ref (ea E 17)) C hP oC_0 rfl iX10 (by decide) wm_t297 rfl rfl dX10_staysTill_78 ?_
  refine r_get (k := 6) (v := .int (σ 17 6)) C hP (oV fV_17) rfl iX5 (by decide) wm_t105 rfl rfl dX10_staysTill_81 ?_
  refine lv_iconst (v := (-1)) hx hb dX10_staysTill_84 (by decide) ?_
  refine lv_icmp_ne (tgt := 92) hx hb dX10_staysTill_85 (by decide) (fun c1 => ?_) (fun c1 => ?_)
  · replace hf := it_f c1 hf
    refine lv_iconst (v := 0) hx hb dX10_staysTill_92 (by decide) ?_
    cases hf
    exact r_zret C rfl hP hS dX10_staysTill_93
  · replace hf := it_t c1 hf
    refine lv_iconst (v := 1) hx hb dX10_staysTill_88 (by decide) ?_
    refine lv_goto (tgt := 93) hx hb dX10_staysTill_89 (by decide) ?_
    cases hf
    exact r_zret C rfl hP hS dX10_staysTill_93
def fX10_staysTill_16B (rec16 : St → Int32 → Int32 → Option (Int32 × St)) (σ : St) (x1 : Int32) (x2 : Int32) : Option (Int32 × St) :=
(if x1 ≤ x2 then
fX10_staysTill_77 σ
else
(if (σ 17 6) = (-1) then
(cq (fX7_rainAt σ x2) fun r3 =>
(cv (fX2_setTime σ r3 (x2 - x2 / 24 * 24)) fun σ6 =>
(cq (fX7_swellAt σ6 x2) fun r7 =>
(cv (fX5_passHour 17 σ6 r7 x2) fun σ10 =>
rec16 σ10 x1 (x2 + 1)))))
else
fX10_staysTill_77 σ))
set_option maxHeartbeats 4000000 in
theorem b_fX10_staysTill_16B {E : Ev} {l : Launch} {p : Program} {e : Env} {s : State} {m : MethodId} {args : Array Value} {below : List Frame} {meth : Method} {c : Code} (C : CX true E RX10 cX10_staysTill 3 (some .boolean) p s m args meth c) {rr : Int32} {sr : St} (rec16 : St → Int32 → Int32 → Option (Int32 × St)) (hr16 : ∀ (σ : St) (x1 : Int32) (x2 : Int32), rec16 σ x1 x2 = some (rr, sr) → GW true l (rmD 8) E 3 p e s m args below meth c (MQ below (QI true E rr sr s.heap.size) args s 0 0 (aW true E s.heap.size)) σ 16 [(0, .ref (ea E 0)), (1, .int x1), (2, .int x2)] []) : ∀ (σ : St) (x1 : Int32) (x2 : Int32), fX10_staysTill_16B rec16 σ x1 x2 = some (rr, sr) → GW true l (rmD 8) E 3 p e s m args below meth c (MQ below (QI true E rr sr s.heap.size) args s 0 0 (aW true E s.heap.size)) σ 16 [(0, .ref (ea E 0)), (1, .int x1), (2, .int x2)] [] := by
  intro σ x1 x2 hf H locs ls hP hS hl
  obtain ⟨hx, hb, hr, hml, hown, hts, hlocks, hK, hX, hj⟩ := id C
  unfold fX10_staysTill_16B at hf
  refine lv_iload_n hx hb dX10_staysTill_16 rfl (lv_at hl 2 rfl) ?_
  refine lv_iload_n hx hb dX10_staysTill_17 rfl (lv_at hl 1 rfl) ?_
  refine lv_icmp_ge (tgt := 77) hx hb dX10_staysTill_18 (by decide) (fun c1 => ?_) (fun c1 => ?_)
  · replace hf := it_t c1 hf
    exact b_fX10_staysTill_77 C σ hf H locs ls hP hS (lv_sub hl [0] rfl)
  · replace hf := it_f c1 hf
    refine lv_aload_n hx hb dX10_staysTill_21 rfl (lv_at hl 0 rfl) ?_
    refine r_get (k := 3) (v := .ref (ea E 17)) C hP oC_0 rfl iX10 (by decide) wm_t297 rfl rfl dX10_staysTill_22 ?_
    refine r_get (k := 6) (v := .int (σ 17 6)) C hP (oV fV_17) rfl iX5 (by decide) wm_t105 rfl rfl dX10_staysTill_25 ?_
    refine lv_iconst (v := (-1)) hx hb dX10_staysTill_28 (by decide) ?_
    refine lv_icmp_ne (tgt := 77) hx hb dX10_staysTill_29 (by decide) (fun c2 => ?_) (fun c2 => ?_)
    · replace hf := it_f c2 hf
      exact b_fX10_staysTill_77 C σ hf H locs ls hP hS (lv_sub hl [0] rfl)
    · replace hf := it_t c2 hf
      refine lv_aload_n hx hb dX10_staysTill_32 rfl (lv_at hl 0 rfl) ?_
      refine r_get (k := 5) (v := .ref (ea E 28)) C hP oC_0 rfl iX10 (by decide) wm_t299 rfl rfl dX10_staysTill_33 ?_
      refine lv_aload_n hx hb dX10_staysTill_36 rfl (lv_at hl 0 rfl) ?_
      refine r_get (k := 0) (v := .ref (ea E 2)) C hP oC_0 rfl iX10 (by decide) wm_t294 rfl rfl dX10_staysTill_37 ?_
      refine lv_iload_n hx hb dX10_staysTill_40 rfl (lv_at hl 2 rfl) ?_
      obtain ⟨r3, hc4, hf⟩ := cq_e hf
      refine r_cVi (n := 1) (As := [.int x2]) (rest := [.ref (ea E 28)]) C (c_fX7_rainAt hj σ H.size x2 hc4) oC_2 rfl gv_RX10_168 (by decide +kernel) ⟨rfl, rfl, by decide, by decide⟩ rfl rfl (Nat.le_of_ble_eq_true rfl) dX10_staysTill_41 hP hS hl.1 (fun H locs hP hS => ?_)
      refine lv_iload_n hx hb dX10_staysTill_44 rfl (lv_at hl 2 rfl) ?_
      refine lv_bipush (v := 24) hx hb dX10_staysTill_45 (by decide) ?_
      refine lv_irem hx hb dX10_staysTill_47 (by decide) ?_
      obtain ⟨σ6, hc5, hf⟩ := cv_e hf
      refine r_cVv (n := 2) (As := [.int r3, .int (x2 - x2 / 24 * 24)]) (rest := []) C (c_fX2_setTime hj σ H.size r3 (x2 - x2 / 24 * 24) hc5) oC_28 rfl gv_RX10_171 (by decide +kernel) ⟨rfl, rfl, by decide, by decide⟩ rfl rfl (Nat.le_of_ble_eq_true rfl) dX10_staysTill_48 hP hS hl.1 (fun H locs hP hS => ?_)
      refine lv_aload_n hx hb dX10_staysTill_51 rfl (lv_at hl 0 rfl) ?_
      refine r_get (k := 3) (v := .ref (ea E 17)) C hP oC_0 rfl iX10 (by decide) wm_t297 rfl rfl dX10_staysTill_52 ?_
      refine lv_aload_n hx hb dX10_staysTill_55 rfl (lv_at hl 0 rfl) ?_
      refine r_get (k := 5) (v := .ref (ea E 28)) C hP oC_0 rfl iX10 (by decide) wm_t299 rfl rfl dX10_staysTill_56 ?_
      refine lv_aload_n hx hb dX10_staysTill_59 rfl (lv_at hl 0 rfl) ?_
      refine r_get (k := 0) (v := .ref (ea E 2)) C hP oC_0 rfl iX10 (by decide) wm_t294 rfl rfl dX10_staysTill_60 ?_
      refine lv_iload_n hx hb dX10_staysTill_63 rfl (lv_at hl 2 rfl) ?_
      obtain ⟨r7, hc8, hf⟩ := cq_e hf
      refine r_cVi (n := 1) (As := [.int x2]) (rest := [.ref (ea E 28), .ref (ea E 17)]) C (c_fX7_swellAt hj σ6 H.size x2 hc8) oC_2 rfl gv_RX10_183 (by decide +kernel) ⟨rfl, rfl, by decide, by decide⟩ rfl rfl (Nat.le_of_ble_eq_true rfl) dX10_staysTill_64 hP hS hl.1 (fun H locs hP hS => ?_)
      refine lv_iload_n hx hb dX10_staysTill_67 rfl (lv_at hl 2 rfl) ?_
      obtain ⟨σ10, hc9, hf⟩ := cv_e hf
      refine r_cVv (n := 3) (As := [.ref (ea E 28), .int r7, .int x2]) (rest := []) C (c_fX5_passHour fV_17 hj σ6 H.size r7 x2 hc9) (oV fV_17) rfl gv_RX10_186 (by decide +kernel) ⟨rfl, rfl, by decide, by decide⟩ rfl rfl (Nat.le_of_ble_eq_true rfl) dX10_staysTill_68 hP hS hl.1 (fun H locs hP hS => ?_)
      refine lv_iinc (v := (x2 + 1)) (lv' := [(2, .int (x2 + 1)), (0, .ref (ea E 0)), (1, .int x1)]) hx hb dX10_staysTill_71 hl (k := 2) rfl rfl (by decide) rfl (fun ls hl => ?_)
      refine lv_goto (tgt := 16) hx hb dX10_staysTill_74 (by decide) ?_
      exact hr16 σ10 x1 (x2 + 1) hf H locs ls hP hS (lv_sub hl [1, 2, 0] rfl)
def fX10_staysTill_16 : Nat → St → Int32 → Int32 → Option (Int32 × St)
  | 0 => fun _ _ _ => none
  | n + 1 => fun σ x1 x2 => fX10_staysTill_16B (fX10_staysTill_16 n) σ x1 x2
theorem b_fX10_staysTill_16 {E : Ev} {l : Launch} {p : Program} {e : Env} {s : State} {m : MethodId} {args : Array Value} {below : List Frame} {meth : Method} {c : Code} (C : CX true E RX10 cX10_staysTill 3 (some .boolean) p s m args meth c) {rr : Int32} {sr : St} : ∀ (n : Nat) (σ : St) (x1 : Int32) (x2 : Int32), fX10_staysTill_16 n σ x1 x2 = some (rr, sr) → GW true l (rmD 8) E 3 p e s m args below meth c (MQ below (QI true E rr sr s.heap.size) args s 0 0 (aW true E s.heap.size)) σ 16 [(0, .ref (ea E 0)), (1, .int x1), (2, .int x2)] [] := by
  intro n
  induction n with
  | zero => intro σ x1 x2 hf; have hf : (none : Option _) = some _ := hf; cases hf
  | succ n ih => intro σ x1 x2 hf; exact b_fX10_staysTill_16B C (fX10_staysTill_16 n) ih σ x1 x2 hf
def fX10_staysTill (σ : St) (a0 : Int32) : Option (Int32 × St) :=
(cv (fX5_copyFrom σ) fun σ2 =>
fX10_staysTill_16 FU σ2 a0 (σ2 0 12))
set_option maxHeartbeats 4000000 in
theorem c_fX10_staysTill {E : Ev} {l : Launch} (hj : jW true E) (σ : St) (sz : Nat) (a0 : Int32) {rr : Int32} {sr : St} (hf : fX10_staysTill σ a0 = some (rr, sr)) : Met l yX10_staysTill (Cond.code yX10_staysTill cX10_staysTill 3 (some .boolean) :: gT) (rmD 8) (va_Pc [.ref (ea E 0), .int a0] (preW true E σ sz)) (QI true E rr sr sz) 0 0 (aW true E sz) := by
  refine r_entry (QI true E rr sr) hj (by decide) [.ref (ea E 0), .int a0] (Nat.le_of_ble_eq_true rfl) (fun p e s m args below meth c C => ?_)
  intro H locs ls hP hS hl
  have hl : lv_has ls 3 [(0, .ref (ea E 0)), (1, .int a0)] := hl
  obtain ⟨hx, hb, hr, hml, hown, hts, hlocks, hK, hX, hj⟩ := id C
  unfold fX10_staysTill at hf
  refine lv_aload_n hx hb dX10_staysTill_0 rfl (lv_at hl 0 rfl) ?_
  refine r_get (k := 3) (v := .ref (ea E 17)) C hP oC_0 rfl iX10 (by decide) wm_t297 rfl rfl dX10_staysTill_1 ?_
  refine lv_aload_n hx hb dX10_staysTill_4 rfl (lv_at hl 0 rfl) ?_
  refine r_get (k := 2) (v := .ref (ea E 10)) C hP oC_0 rfl iX10 (by decide) wm_t296 rfl rfl dX10_staysTill_5 ?_
  obtain ⟨σ2, hc1, hf⟩ := cv_e hf
  refine r_cVv (n := 1) (As := [.ref (ea E 10)]) (rest := []) C (c_fX5_copyFrom hj σ H.size hc1) (oV fV_17) rfl gv_RX10_323 (by decide +kernel) ⟨rfl, rfl, by decide, by decide⟩ rfl rfl (Nat.le_of_ble_eq_true rfl) dX10_staysTill_8 hP hS hl.1 (fun H locs hP hS => ?_)
  refine lv_aload_n hx hb dX10_staysTill_11 rfl (lv_at hl 0 rfl) ?_
  refine r_get (k := 12) (v := .int (σ2 0 12)) C hP oC_0 rfl iX10 (by decide) wm_t306 rfl rfl dX10_staysTill_12 ?_
  refine lv_istore_n (lv' := [(2, .int (σ2 0 12)), (0, .ref (ea E 0)), (1, .int a0)]) hx hb dX10_staysTill_15 rfl hl (by decide) rfl (fun ls hl => ?_)
  exact b_fX10_staysTill_16 C FU σ2 a0 (σ2 0 12) hf H locs ls hP hS (lv_sub hl [1, 2, 0] rfl)
def fX10_reach_13 (σ : St) (x1 : Int32) (y0 : Int32) : Option (Int32 × St) :=
(if (fX10_within y0 (σ 0 11)) = 0 then
some ((-1), σ)
else
(if (σ 10 3) = 0 then
some ((-1), σ)
else
(if (σ 10 6) = (-1) then
(rdK 6 (σ 1) y0 fun v4 =>
(if ((σ 0 12) + v4) ≤ 719 then
(cb (fX10_staysTill σ ((σ 0 12) + v4)) fun r7 σ9 =>
(if x1 = (-1) then
(if r7 = 0 then
some ((-1), σ9)
else
some (y0, σ9))
else
(if r7 = 0 then
some (0, σ9)
else
some (1, σ9))))
else
some ((-1), σ)))
else
some ((-1), σ))))
set_option maxHeartbeats 4000000 in
theorem b_fX10_reach_13 {E : Ev} {l : Launch} {p : Program} {e : Env} {s : State} {m : MethodId} {args : Array Value} {below : List Frame} {meth : Method} {c : Code} (C : CX true E RX10 cX10_reach 5 (some .int) p s m args meth c) {rr : Int32} {sr : St} : ∀ (σ : St) (x1 : Int32) (y0 : Int32), fX10_reach_13 σ x1 y0 = some (rr, sr) → GW true l (rmD 9) E 5 p e s m args below meth c (MQ below (QI true E rr sr s.heap.size) args s 0 0 (aW true E s.heap.size)) σ 13 [(0, .ref (ea E 0)), (1, .int x1)] [.int y0] := by
  intro σ x1 y0 hf H locs ls hP hS hl
  obtain ⟨hx, hb, hr, hml, hown, hts, hlocks, hK, hX, hj⟩ := id C
  unfold fX10_reach_13 at hf
  refine lv_istore_n (lv' := [(2, .int y0), (0, .ref (ea E 0)), (1, .int x1)]) hx hb dX10_reach_13 rfl hl (by decide) rfl (fun ls hl => ?_)
  refine lv_iload_n hx hb dX10_reach_14 rfl (lv_at hl 0 rfl) ?_
  refine lv_aload_n hx hb dX10_reach_15 rfl (lv_at hl 1 rfl) ?_
  refine r_get (k := 11) (v := .int (σ 0 11)) C hP oC_0 rfl iX10 (by decide) wm_t305 rfl rfl dX10_reach_16 ?_
  refine r_cSi (n := 2) (As := [.int y0, .int (σ 0 11)]) (rest := []) C (c_fX10_within hj σ H.size y0 (σ 0 11)) gs_RX10_85 (by decide +kernel) ⟨rfl, rfl, by decide, by decide⟩ rfl rfl (Nat.le_of_ble_eq_true rfl) dX10_reach_19 hP hS hl.1 (fun H locs hP hS => ?_)
  refine lv_if_eq (tgt := 46) hx hb dX10_reach_22 (by decide) (fun c1 => ?_) (fun c1 => ?_)
  · replace hf := it_t c1 hf
    refine lv_iconst (v := (-1)) hx hb dX10_reach_46 (by decide) ?_
    cases hf
    exact r_iret C hP hS dX10_reach_47
  · replace hf := it_f c1 hf
    refine lv_aload_n hx hb dX10_reach_25 rfl (lv_at hl 1 rfl) ?_
    refine r_get (k := 2) (v := .ref (ea E 10)) C hP oC_0 rfl iX10 (by decide) wm_t296 rfl rfl dX10_reach_26 ?_
    refine r_get (k := 3) (v := .int (σ 10 3)) C hP (oV fV_10) rfl iX5 (by decide) wm_t99 rfl rfl dX10_reach_29 ?_
    refine lv_if_eq (tgt := 46) hx hb dX10_reach_32 (by decide) (fun c2 => ?_) (fun c2 => ?_)
    · replace hf := it_t c2 hf
      refine lv_iconst (v := (-1)) hx hb dX10_reach_46 (by decide) ?_
      cases hf
      exact r_iret C hP hS dX10_reach_47
    · replace hf := it_f c2 hf
      refine lv_aload_n hx hb dX10_reach_35 rfl (lv_at hl 1 rfl) ?_
      refine r_get (k := 2) (v := .ref (ea E 10)) C hP oC_0 rfl iX10 (by decide) wm_t296 rfl rfl dX10_reach_36 ?_
      refine r_get (k := 6) (v := .int (σ 10 6)) C hP (oV fV_10) rfl iX5 (by decide) wm_t105 rfl rfl dX10_reach_39 ?_
      refine lv_iconst (v := (-1)) hx hb dX10_reach_42 (by decide) ?_
      refine lv_icmp_eq (tgt := 48) hx hb dX10_reach_43 (by decide) (fun c3 => ?_) (fun c3 => ?_)
      · replace hf := it_t c3 hf
        refine lv_aload_n hx hb dX10_reach_48 rfl (lv_at hl 1 rfl) ?_
        refine r_get (k := 12) (v := .int (σ 0 12)) C hP oC_0 rfl iX10 (by decide) wm_t306 rfl rfl dX10_reach_49 ?_
        refine lv_aload_n hx hb dX10_reach_52 rfl (lv_at hl 1 rfl) ?_
        refine r_get (k := 10) (v := .ref (ea E 1)) C hP oC_0 rfl iX10 (by decide) wm_t304 rfl rfl dX10_reach_53 ?_
        refine lv_iload_n hx hb dX10_reach_56 rfl (lv_at hl 0 rfl) ?_
        have h5 := (rdK_e hf).1
        refine r_ald C hP aC_1 h5 dX10_reach_57 ?_
        refine lv_topi (fun v4 ev4 => ?_)
        replace hf := rdK_n ev4 hf
        refine lv_iadd hx hb dX10_reach_58 ?_
        refine lv_istore_n (lv' := [(3, .int ((σ 0 12) + v4)), (2, .int y0), (0, .ref (ea E 0)), (1, .int x1)]) hx hb dX10_reach_59 rfl hl (by decide) rfl (fun ls hl => ?_)
        refine lv_iload_n hx hb dX10_reach_60 rfl (lv_at hl 0 rfl) ?_
        refine lv_sipush (v := 719) hx hb dX10_reach_61 (by decide) ?_
        refine lv_icmp_le (tgt := 69) hx hb dX10_reach_64 (by decide) (fun c6 => ?_) (fun c6 => ?_)
        · replace hf := it_t c6 hf
          refine lv_aload_n hx hb dX10_reach_69 rfl (lv_at hl 2 rfl) ?_
          refine lv_iload_n hx hb dX10_reach_70 rfl (lv_at hl 0 rfl) ?_
          obtain ⟨r7, σ9, hc8, hf⟩ := cb_e hf
          refine r_cVi (n := 1) (As := [.int ((σ 0 12) + v4)]) (rest := []) C (c_fX10_staysTill hj σ H.size ((σ 0 12) + v4) hc8) oC_0 rfl gv_RX10_299 (by decide +kernel) ⟨rfl, rfl, by decide, by decide⟩ rfl rfl (Nat.le_of_ble_eq_true rfl) dX10_reach_71 hP hS hl.1 (fun H locs hP hS => ?_)
          refine lv_istore (lv' := [(4, .int r7), (3, .int ((σ 0 12) + v4)), (2, .int y0), (0, .ref (ea E 0)), (1, .int x1)]) hx hb dX10_reach_74 hl (by decide) rfl (fun ls hl => ?_)
          refine lv_iload_n hx hb dX10_reach_76 rfl (lv_at hl 4 rfl) ?_
          refine lv_iconst (v := (-1)) hx hb dX10_reach_77 (by decide) ?_
          refine lv_icmp_ne (tgt := 92) hx hb dX10_reach_78 (by decide) (fun c10 => ?_) (fun c10 => ?_)
          · replace hf := it_f c10 hf
            refine lv_iload hx hb dX10_reach_92 (lv_at hl 0 rfl) ?_
            refine lv_if_eq (tgt := 101) hx hb dX10_reach_94 (by decide) (fun c11 => ?_) (fun c11 => ?_)
            · replace hf := it_t c11 hf
              refine lv_iconst (v := 0) hx hb dX10_reach_101 (by decide) ?_
              cases hf
              exact r_iret C hP hS dX10_reach_102
            · replace hf := it_f c11 hf
              refine lv_iconst (v := 1) hx hb dX10_reach_97 (by decide) ?_
              refine lv_goto (tgt := 102) hx hb dX10_reach_98 (by decide) ?_
              cases hf
              exact r_iret C hP hS dX10_reach_102
          · replace hf := it_t c10 hf
            refine lv_iload hx hb dX10_reach_81 (lv_at hl 0 rfl) ?_
            refine lv_if_eq (tgt := 90) hx hb dX10_reach_83 (by decide) (fun c12 => ?_) (fun c12 => ?_)
            · replace hf := it_t c12 hf
              refine lv_iconst (v := (-1)) hx hb dX10_reach_90 (by decide) ?_
              cases hf
              exact r_iret C hP hS dX10_reach_91
            · replace hf := it_f c12 hf
              refine lv_iload_n hx hb dX10_reach_86 rfl (lv_at hl 2 rfl) ?_
              refine lv_goto (tgt := 91) hx hb dX10_reach_87 (by decide) ?_
              cases hf
              exact r_iret C hP hS dX10_reach_91
        · replace hf := it_f c6 hf
          refine lv_iconst (v := (-1)) hx hb dX10_reach_67 (by decide) ?_
          cases hf
          exact r_iret C hP hS dX10_reach_68
      · replace hf := it_f c3 hf
        refine lv_iconst (v := (-1)) hx hb dX10_reach_46 (by decide) ?_
        cases hf
        exact r_iret C hP hS dX10_reach_47
def fX10_reach (σ : St) (a0 : Int32) : Option (Int32 × St) :=
(if a0 = (-1) then
(cq (fX10_nearestPort σ) fun r2 =>
fX10_reach_13 σ a0 r2)
else
fX10_reach_13 σ a0 a0)
set_option maxHeartbeats 4000000 in
theorem c_fX10_reach {E : Ev} {l : Launch} (hj : jW true E) (σ : St) (sz : Nat) (a0 : Int32) {rr : Int32} {sr : St} (hf : fX10_reach σ a0 = some (rr, sr)) : Met l yX10_reach (Cond.code yX10_reach cX10_reach 5 (some .int) :: gT) (rmD 9) (va_Pc [.ref (ea E 0), .int a0] (preW true E σ sz)) (QI true E rr sr sz) 0 0 (aW true E sz) := by
  refine r_entry (QI true E rr sr) hj (by decide) [.ref (ea E 0), .int a0] (Nat.le_of_ble_eq_true rfl) (fun p e s m args below meth c C => ?_)
  intro H locs ls hP hS hl
  have hl : lv_has ls 5 [(0, .ref (ea E 0)), (1, .int a0)] := hl
  obtain ⟨hx, hb, hr, hml, hown, hts, hlocks, hK, hX, hj⟩ := id C
  unfold fX10_reach at hf
  refine lv_iload_n hx hb dX10_reach_0 rfl (lv_at hl 1 rfl) ?_
  refine lv_iconst (v := (-1)) hx hb dX10_reach_1 (by decide) ?_
  refine lv_icmp_ne (tgt := 12) hx hb dX10_reach_2 (by decide) (fun c1 => ?_) (fun c1 => ?_)
  · replace hf := it_f c1 hf
    refine lv_iload_n hx hb dX10_reach_12 rfl (lv_at hl 1 rfl) ?_
    exact b_fX10_reach_13 C σ a0 a0 hf H locs ls hP hS (lv_sub hl [0, 1] rfl)
  · replace hf := it_t c1 hf
    refine lv_aload_n hx hb dX10_reach_5 rfl (lv_at hl 0 rfl) ?_
    obtain ⟨r2, hc3, hf⟩ := cq_e hf
    refine r_cVi (n := 0) (As := []) (rest := []) C (c_fX10_nearestPort hj σ H.size hc3) oC_0 rfl gv_RX10_296 (by decide +kernel) ⟨rfl, rfl, by decide, by decide⟩ rfl rfl (Nat.le_of_ble_eq_true rfl) dX10_reach_6 hP hS hl.1 (fun H locs hP hS => ?_)
    refine lv_goto (tgt := 13) hx hb dX10_reach_9 (by decide) ?_
    exact b_fX10_reach_13 C σ a0 r2 hf H locs ls hP hS (lv_sub hl [0, 1] rfl)
