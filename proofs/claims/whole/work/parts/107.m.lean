def fX11_told_103 (σ : St) (x1 : Int32) : Option (Int32 × St) :=
(cb (fX11_lawOf σ x1) fun r1 σ3 =>
some (r1, σ3))
set_option maxHeartbeats 4000000 in
theorem b_fX11_told_103 {E : Ev} {l : Launch} {p : Program} {e : Env} {s : State} {m : MethodId} {args : Array Value} {below : List Frame} {meth : Method} {c : Code} (C : CX false E RX11 cX11_told 7 (some .int) p s m args meth c) {rr : Int32} {sr : St} : ∀ (σ : St) (x1 : Int32), fX11_told_103 σ x1 = some (rr, sr) → GW false l (rmD 4) E 7 p e s m args below meth c (MQ below (QI false E rr sr s.heap.size) args s 0 0 (aW false E s.heap.size)) σ 103 [(0, .ref (ea E 0)), (1, .int x1)] [] := by
  intro σ x1 hf H locs ls hP hS hl
  obtain ⟨hx, hb, hr, hml, hown, hts, hlocks, hK, hX, hj⟩ := id C
  unfold fX11_told_103 at hf
  refine lv_aload_n hx hb dX11_told_103 rfl (lv_at hl 0 rfl) ?_
  refine lv_iload_n hx hb dX11_told_104 rfl (lv_at hl 1 rfl) ?_
  obtain ⟨r1, σ3, hc2, hf⟩ := cb_e hf
  refine r_cVi (n := 1) (As := [.int x1]) (rest := []) C (c_fX11_lawOf hj σ H.size x1 hc2) oM_0 rfl gv_RX11_300 (by decide +kernel) (rmD_le (by decide) (by decide)) rfl rfl (Nat.le_of_ble_eq_true rfl) dX11_told_105 hP hS hl.1 (fun H locs hP hS => ?_)
  cases hf
  exact r_iret C hP hS dX11_told_108
def fX11_told_74 (σ : St) (x1 : Int32) (x2 : Int32) (x6 : Int32) (y0 : Int32) : Option (Int32 × St) :=
(if y0 = 0 then
some (0, σ)
else
(if x2 = (-1) then
(cv (fX11_takesHeap σ x6) fun σ6 =>
fX11_told_103 σ6 x1)
else
(cv (fX11_takesShip σ x6 (σ 0 1)) fun σ4 =>
fX11_told_103 σ4 x1)))
set_option maxHeartbeats 4000000 in
theorem b_fX11_told_74 {E : Ev} {l : Launch} {p : Program} {e : Env} {s : State} {m : MethodId} {args : Array Value} {below : List Frame} {meth : Method} {c : Code} (C : CX false E RX11 cX11_told 7 (some .int) p s m args meth c) {rr : Int32} {sr : St} : ∀ (σ : St) (x1 : Int32) (x2 : Int32) (x6 : Int32) (y0 : Int32), fX11_told_74 σ x1 x2 x6 y0 = some (rr, sr) → GW false l (rmD 4) E 7 p e s m args below meth c (MQ below (QI false E rr sr s.heap.size) args s 0 0 (aW false E s.heap.size)) σ 74 [(0, .ref (ea E 0)), (1, .int x1), (2, .int x2), (6, .int x6)] [.int y0] := by
  intro σ x1 x2 x6 y0 hf H locs ls hP hS hl
  obtain ⟨hx, hb, hr, hml, hown, hts, hlocks, hK, hX, hj⟩ := id C
  unfold fX11_told_74 at hf
  refine lv_if_ne (tgt := 79) hx hb dX11_told_74 (by decide) (fun c1 => ?_) (fun c1 => ?_)
  · replace hf := it_f c1 hf
    refine lv_iload_n hx hb dX11_told_79 rfl (lv_at hl 2 rfl) ?_
    refine lv_iconst (v := (-1)) hx hb dX11_told_80 (by decide) ?_
    refine lv_icmp_ne (tgt := 93) hx hb dX11_told_81 (by decide) (fun c2 => ?_) (fun c2 => ?_)
    · replace hf := it_f c2 hf
      refine lv_aload_n hx hb dX11_told_93 rfl (lv_at hl 0 rfl) ?_
      refine lv_iload hx hb dX11_told_94 (lv_at hl 3 rfl) ?_
      refine lv_aload_n hx hb dX11_told_96 rfl (lv_at hl 0 rfl) ?_
      refine r_get (k := 1) (v := .int (σ 0 1)) C hP oM_0 rfl iX11 (by decide) wm_t1018 rfl rfl dX11_told_97 ?_
      obtain ⟨σ4, hc3, hf⟩ := cv_e hf
      refine r_cVv (n := 2) (As := [.int x6, .int (σ 0 1)]) (rest := []) C (c_fX11_takesShip hj σ H.size x6 (σ 0 1) hc3) oM_0 rfl gv_RX11_297 (by decide +kernel) (rmD_le (by decide) (by decide)) rfl rfl (Nat.le_of_ble_eq_true rfl) dX11_told_100 hP hS hl.1 (fun H locs hP hS => ?_)
      exact b_fX11_told_103 C σ4 x1 hf H locs ls hP hS (lv_sub hl [0, 1] rfl)
    · replace hf := it_t c2 hf
      refine lv_aload_n hx hb dX11_told_84 rfl (lv_at hl 0 rfl) ?_
      refine lv_iload hx hb dX11_told_85 (lv_at hl 3 rfl) ?_
      obtain ⟨σ6, hc5, hf⟩ := cv_e hf
      refine r_cVv (n := 1) (As := [.int x6]) (rest := []) C (c_fX11_takesHeap hj σ H.size x6 hc5) oM_0 rfl gv_RX11_294 (by decide +kernel) (rmD_le (by decide) (by decide)) rfl rfl (Nat.le_of_ble_eq_true rfl) dX11_told_87 hP hS hl.1 (fun H locs hP hS => ?_)
      refine lv_goto (tgt := 103) hx hb dX11_told_90 (by decide) ?_
      exact b_fX11_told_103 C σ6 x1 hf H locs ls hP hS (lv_sub hl [0, 1] rfl)
  · replace hf := it_t c1 hf
    refine lv_iconst (v := 0) hx hb dX11_told_77 (by decide) ?_
    cases hf
    exact r_iret C hP hS dX11_told_78
def fX11_told_30 (σ : St) (x1 : Int32) (x2 : Int32) (y0 : Int32) : Option (Int32 × St) :=
(if y0 = (-1) then
some ((-1000000), σ)
else
(if (fX11_isIn x1 0 3) = 0 then
some ((-1000000), σ)
else
(if x2 = (-1) then
(rdK 256 (σ 3) y0 fun v6 =>
fX11_told_74 σ x1 x2 y0 v6)
else
(rdK 288 (σ 5) y0 fun v4 =>
fX11_told_74 σ x1 x2 y0 v4))))
set_option maxHeartbeats 4000000 in
theorem b_fX11_told_30 {E : Ev} {l : Launch} {p : Program} {e : Env} {s : State} {m : MethodId} {args : Array Value} {below : List Frame} {meth : Method} {c : Code} (C : CX false E RX11 cX11_told 7 (some .int) p s m args meth c) {rr : Int32} {sr : St} : ∀ (σ : St) (x1 : Int32) (x2 : Int32) (y0 : Int32), fX11_told_30 σ x1 x2 y0 = some (rr, sr) → GW false l (rmD 4) E 7 p e s m args below meth c (MQ below (QI false E rr sr s.heap.size) args s 0 0 (aW false E s.heap.size)) σ 30 [(0, .ref (ea E 0)), (1, .int x1), (2, .int x2)] [.int y0] := by
  intro σ x1 x2 y0 hf H locs ls hP hS hl
  obtain ⟨hx, hb, hr, hml, hown, hts, hlocks, hK, hX, hj⟩ := id C
  unfold fX11_told_30 at hf
  refine lv_istore (lv' := [(6, .int y0), (0, .ref (ea E 0)), (1, .int x1), (2, .int x2)]) hx hb dX11_told_30 hl (by decide) rfl (fun ls hl => ?_)
  refine lv_iload hx hb dX11_told_32 (lv_at hl 0 rfl) ?_
  refine lv_iconst (v := (-1)) hx hb dX11_told_34 (by decide) ?_
  refine lv_icmp_eq (tgt := 48) hx hb dX11_told_35 (by decide) (fun c1 => ?_) (fun c1 => ?_)
  · replace hf := it_t c1 hf
    refine lv_ldcw (v := (-1000000)) hx hb hown (hts _ wm_t1359) dX11_told_48 ?_
    cases hf
    exact r_iret C hP hS dX11_told_51
  · replace hf := it_f c1 hf
    refine lv_aload_n hx hb dX11_told_38 rfl (lv_at hl 1 rfl) ?_
    refine lv_iload_n hx hb dX11_told_39 rfl (lv_at hl 2 rfl) ?_
    refine lv_iconst (v := 0) hx hb dX11_told_40 (by decide) ?_
    refine lv_iconst (v := 3) hx hb dX11_told_41 (by decide) ?_
    refine r_cVi (n := 3) (As := [.int x1, .int 0, .int 3]) (rest := []) C (c_fX11_isIn hj σ H.size x1 0 3) oM_0 rfl gv_RX11_144 (by decide +kernel) (rmD_le (by decide) (by decide)) rfl rfl (Nat.le_of_ble_eq_true rfl) dX11_told_42 hP hS hl.1 (fun H locs hP hS => ?_)
    refine lv_if_ne (tgt := 52) hx hb dX11_told_45 (by decide) (fun c2 => ?_) (fun c2 => ?_)
    · replace hf := it_f c2 hf
      refine lv_iload_n hx hb dX11_told_52 rfl (lv_at hl 3 rfl) ?_
      refine lv_iconst (v := (-1)) hx hb dX11_told_53 (by decide) ?_
      refine lv_icmp_ne (tgt := 67) hx hb dX11_told_54 (by decide) (fun c3 => ?_) (fun c3 => ?_)
      · replace hf := it_f c3 hf
        refine lv_aload_n hx hb dX11_told_67 rfl (lv_at hl 1 rfl) ?_
        refine r_get (k := 7) (v := .ref (ea E 5)) C hP oM_0 rfl iX11 (by decide) wm_t1024 rfl rfl dX11_told_68 ?_
        refine lv_iload hx hb dX11_told_71 (lv_at hl 0 rfl) ?_
        have h5 := (rdK_e hf).1
        refine r_ald C hP aM_5 h5 dX11_told_73 ?_
        refine lv_topi (fun v4 ev4 => ?_)
        replace hf := rdK_n ev4 hf
        exact b_fX11_told_74 C σ x1 x2 y0 v4 hf H locs ls hP hS (lv_sub hl [1, 2, 3, 0] rfl)
      · replace hf := it_t c3 hf
        refine lv_aload_n hx hb dX11_told_57 rfl (lv_at hl 1 rfl) ?_
        refine r_get (k := 5) (v := .ref (ea E 3)) C hP oM_0 rfl iX11 (by decide) wm_t1022 rfl rfl dX11_told_58 ?_
        refine lv_iload hx hb dX11_told_61 (lv_at hl 0 rfl) ?_
        have h7 := (rdK_e hf).1
        refine r_ald C hP aM_3 h7 dX11_told_63 ?_
        refine lv_topi (fun v6 ev6 => ?_)
        replace hf := rdK_n ev6 hf
        refine lv_goto (tgt := 74) hx hb dX11_told_64 (by decide) ?_
        exact b_fX11_told_74 C σ x1 x2 y0 v6 hf H locs ls hP hS (lv_sub hl [1, 2, 3, 0] rfl)
    · replace hf := it_t c2 hf
      refine lv_ldcw (v := (-1000000)) hx hb hown (hts _ wm_t1359) dX11_told_48 ?_
      cases hf
      exact r_iret C hP hS dX11_told_51
def fX11_told (σ : St) (a0 : Int32) (a1 : Int32) (a2 : Int32) (a3 : Int32) (a4 : Int32) : Option (Int32 × St) :=
(nmS (st_put σ 0 0 0) fun σ1 =>
(if a1 = (-1) then
fX11_told_30 σ1 a0 a1 (fX11_heapAt a2 a3 a4)
else
fX11_told_30 σ1 a0 a1 (fX11_holdAt a1 a2 a4)))
set_option maxHeartbeats 4000000 in
theorem c_fX11_told {E : Ev} {l : Launch} (hj : jW false E) (σ : St) (sz : Nat) (a0 : Int32) (a1 : Int32) (a2 : Int32) (a3 : Int32) (a4 : Int32) {rr : Int32} {sr : St} (hf : fX11_told σ a0 a1 a2 a3 a4 = some (rr, sr)) : Met l yX11_told (Cond.code yX11_told cX11_told 7 (some .int) :: gT) (rmD 4) (va_Pc [.ref (ea E 0), .int a0, .int a1, .int a2, .int a3, .int a4] (preW false E σ sz)) (QI false E rr sr sz) 0 0 (aW false E sz) := by
  refine r_entry (QI false E rr sr) hj (by decide) [.ref (ea E 0), .int a0, .int a1, .int a2, .int a3, .int a4] (Nat.le_of_ble_eq_true rfl) (fun p e s m args below meth c C => ?_)
  intro H locs ls hP hS hl
  have hl : lv_has ls 7 [(0, .ref (ea E 0)), (1, .int a0), (2, .int a1), (3, .int a2), (4, .int a3), (5, .int a4)] := hl
  obtain ⟨hx, hb, hr, hml, hown, hts, hlocks, hK, hX, hj⟩ := id C
  unfold fX11_told at hf
  refine lv_aload_n hx hb dX11_told_0 rfl (lv_at hl 0 rfl) ?_
  refine lv_iconst (v := 0) hx hb dX11_told_1 (by decide) ?_
  refine r_put (k := 0) (x := 0) C hP hS tyX11 tyX11_ok nmX11 oM_0 rfl iX11 (by decide) wm_t1017 rfl rfl sM_0_0 rfl rfl (Nat.le_of_ble_eq_true rfl) dX11_told_2 (fun H locs hP hS => ?_)
  obtain ⟨σ1, eσ1, hf⟩ := nmS_e hf
  rw [← eσ1] at hP
  refine lv_iload_n hx hb dX11_told_5 rfl (lv_at hl 2 rfl) ?_
  refine lv_iconst (v := (-1)) hx hb dX11_told_6 (by decide) ?_
  refine lv_icmp_ne (tgt := 22) hx hb dX11_told_7 (by decide) (fun c2 => ?_) (fun c2 => ?_)
  · replace hf := it_f c2 hf
    refine lv_aload_n hx hb dX11_told_22 rfl (lv_at hl 0 rfl) ?_
    refine lv_iload_n hx hb dX11_told_23 rfl (lv_at hl 2 rfl) ?_
    refine lv_iload_n hx hb dX11_told_24 rfl (lv_at hl 3 rfl) ?_
    refine lv_iload hx hb dX11_told_25 (lv_at hl 5 rfl) ?_
    refine r_cVi (n := 3) (As := [.int a1, .int a2, .int a4]) (rest := []) C (c_fX11_holdAt hj σ1 H.size a1 a2 a4) oM_0 rfl gv_RX11_155 (by decide +kernel) (rmD_le (by decide) (by decide)) rfl rfl (Nat.le_of_ble_eq_true rfl) dX11_told_27 hP hS hl.1 (fun H locs hP hS => ?_)
    exact b_fX11_told_30 C σ1 a0 a1 (fX11_holdAt a1 a2 a4) hf H locs ls hP hS (lv_sub hl [0, 1, 2] rfl)
  · replace hf := it_t c2 hf
    refine lv_aload_n hx hb dX11_told_10 rfl (lv_at hl 0 rfl) ?_
    refine lv_iload_n hx hb dX11_told_11 rfl (lv_at hl 3 rfl) ?_
    refine lv_iload hx hb dX11_told_12 (lv_at hl 4 rfl) ?_
    refine lv_iload hx hb dX11_told_14 (lv_at hl 5 rfl) ?_
    refine r_cVi (n := 3) (As := [.int a2, .int a3, .int a4]) (rest := []) C (c_fX11_heapAt hj σ1 H.size a2 a3 a4) oM_0 rfl gv_RX11_151 (by decide +kernel) (rmD_le (by decide) (by decide)) rfl rfl (Nat.le_of_ble_eq_true rfl) dX11_told_16 hP hS hl.1 (fun H locs hP hS => ?_)
    refine lv_goto (tgt := 30) hx hb dX11_told_19 (by decide) ?_
    exact b_fX11_told_30 C σ1 a0 a1 (fX11_heapAt a2 a3 a4) hf H locs ls hP hS (lv_sub hl [0, 1, 2] rfl)
def fX11_more (a0 : Int32) (a1 : Int32) : Int32 :=
(if (a0 + a1) ≤ 9999 then
(a0 + a1)
else
9999)
set_option maxHeartbeats 4000000 in
theorem c_fX11_more {E : Ev} {l : Launch} (hj : jW false E) (σ : St) (sz : Nat) (a0 : Int32) (a1 : Int32) : Met l yX11_more (Cond.code yX11_more cX11_more 3 (some .int) :: gT) (rmD 1) (va_Pc [.ref (ea E 0), .int a0, .int a1] (preW false E σ sz)) (QI false E (fX11_more a0 a1) σ sz) 0 0 (aW false E sz) := by
  refine r_entry (QI false E (fX11_more a0 a1) σ) hj (by decide) [.ref (ea E 0), .int a0, .int a1] (Nat.le_of_ble_eq_true rfl) (fun p e s m args below meth c C => ?_)
  intro H locs ls hP hS hl
  have hl : lv_has ls 3 [(0, .ref (ea E 0)), (1, .int a0), (2, .int a1)] := hl
  obtain ⟨hx, hb, hr, hml, hown, hts, hlocks, hK, hX, hj⟩ := id C
  generalize hf : fX11_more a0 a1 = rr
  unfold fX11_more at hf
  refine lv_iload_n hx hb dX11_more_0 rfl (lv_at hl 1 rfl) ?_
  refine lv_iload_n hx hb dX11_more_1 rfl (lv_at hl 2 rfl) ?_
  refine lv_iadd hx hb dX11_more_2 ?_
  refine lv_sipush (v := 9999) hx hb dX11_more_3 (by decide) ?_
  refine lv_icmp_le (tgt := 15) hx hb dX11_more_6 (by decide) (fun c1 => ?_) (fun c1 => ?_)
  · replace hf := it_t c1 hf
    refine lv_iload_n hx hb dX11_more_15 rfl (lv_at hl 1 rfl) ?_
    refine lv_iload_n hx hb dX11_more_16 rfl (lv_at hl 2 rfl) ?_
    refine lv_iadd hx hb dX11_more_17 ?_
    subst hf
    exact r_iret C hP hS dX11_more_18
  · replace hf := it_f c1 hf
    refine lv_sipush (v := 9999) hx hb dX11_more_9 (by decide) ?_
    refine lv_goto (tgt := 18) hx hb dX11_more_12 (by decide) ?_
    subst hf
    exact r_iret C hP hS dX11_more_18
def fX11_heapHour_254B (rec254 : St → Int32 → Option St) (σ : St) (x1 : Int32) : Option St :=
(if 192 ≤ x1 then
some σ
else
(rdK 256 (σ 4) x1 fun v2 =>
(rdK 256 (σ 26) (x1 + 64) fun v4 =>
(rdK 256 (σ 4) x1 fun v6 =>
(rdK 256 (σ 26) (x1 + 64) fun v8 =>
(wrK 256 σ 4 x1 (fX11_more v6 v8) fun σ10 =>
(rdK 256 (σ10 4) x1 fun v12 =>
(nmS (st_put σ10 0 11 (((σ10 0 11) + (v2 + v4)) - v12)) fun σ14 =>
rec254 σ14 (x1 + 1)))))))))
set_option maxHeartbeats 4000000 in
theorem b_fX11_heapHour_254B {E : Ev} {l : Launch} {p : Program} {e : Env} {s : State} {m : MethodId} {args : Array Value} {below : List Frame} {meth : Method} {c : Code} (C : CX false E RX11 cX11_heapHour 5 none p s m args meth c) {sr : St} (rec254 : St → Int32 → Option St) (hr254 : ∀ (σ : St) (x1 : Int32), rec254 σ x1 = some sr → GW false l (rmD 4) E 5 p e s m args below meth c (MQ below (QV false E sr s.heap.size) args s 0 0 (aW false E s.heap.size)) σ 254 [(0, .ref (ea E 0)), (1, .int x1)] []) : ∀ (σ : St) (x1 : Int32), fX11_heapHour_254B rec254 σ x1 = some sr → GW false l (rmD 4) E 5 p e s m args below meth c (MQ below (QV false E sr s.heap.size) args s 0 0 (aW false E s.heap.size)) σ 254 [(0, .ref (ea E 0)), (1, .int x1)] [] := by
  intro σ x1 hf H locs ls hP hS hl
  obtain ⟨hx, hb, hr, hml, hown, hts, hlocks, hK, hX, hj⟩ := id C
  unfold fX11_heapHour_254B at hf
  refine lv_iload_n hx hb dX11_heapHour_254 rfl (lv_at hl 1 rfl) ?_
  refine lv_sipush (v := 192) hx hb dX11_heapHour_255 (by decide) ?_
  refine lv_icmp_ge (tgt := 326) hx hb dX11_heapHour_258 (by decide) (fun c1 => ?_) (fun c1 => ?_)
  · replace hf := it_t c1 hf
    cases hf
    exact r_vret C hP hS dX11_heapHour_326
  · replace hf := it_f c1 hf
    refine lv_aload_n hx hb dX11_heapHour_261 rfl (lv_at hl 0 rfl) ?_
    refine r_get (k := 6) (v := .ref (ea E 4)) C hP oM_0 rfl iX11 (by decide) wm_t1023 rfl rfl dX11_heapHour_262 ?_
    refine lv_iload_n hx hb dX11_heapHour_265 rfl (lv_at hl 1 rfl) ?_
    have h3 := (rdK_e hf).1
    refine r_ald C hP aM_4 h3 dX11_heapHour_266 ?_
    refine lv_topi (fun v2 ev2 => ?_)
    replace hf := rdK_n ev2 hf
    refine lv_aload_n hx hb dX11_heapHour_267 rfl (lv_at hl 0 rfl) ?_
    refine r_get (k := 43) (v := .ref (ea E 26)) C hP oM_0 rfl iX11 (by decide) wm_t1060 rfl rfl dX11_heapHour_268 ?_
    refine lv_iload_n hx hb dX11_heapHour_271 rfl (lv_at hl 1 rfl) ?_
    refine lv_bipush (v := 64) hx hb dX11_heapHour_272 (by decide) ?_
    refine lv_iadd hx hb dX11_heapHour_274 ?_
    have h5 := (rdK_e hf).1
    refine r_ald C hP aM_26 h5 dX11_heapHour_275 ?_
    refine lv_topi (fun v4 ev4 => ?_)
    replace hf := rdK_n ev4 hf
    refine lv_iadd hx hb dX11_heapHour_276 ?_
    refine lv_istore_n (lv' := [(2, .int (v2 + v4)), (0, .ref (ea E 0)), (1, .int x1)]) hx hb dX11_heapHour_277 rfl hl (by decide) rfl (fun ls hl => ?_)
    refine lv_aload_n hx hb dX11_heapHour_278 rfl (lv_at hl 1 rfl) ?_
    refine r_get (k := 6) (v := .ref (ea E 4)) C hP oM_0 rfl iX11 (by decide) wm_t1023 rfl rfl dX11_heapHour_279 ?_
    refine lv_iload_n hx hb dX11_heapHour_282 rfl (lv_at hl 2 rfl) ?_
    refine lv_aload_n hx hb dX11_heapHour_283 rfl (lv_at hl 1 rfl) ?_
    refine lv_aload_n hx hb dX11_heapHour_284 rfl (lv_at hl 1 rfl) ?_
    refine r_get (k := 6) (v := .ref (ea E 4)) C hP oM_0 rfl iX11 (by decide) wm_t1023 rfl rfl dX11_heapHour_285 ?_
    refine lv_iload_n hx hb dX11_heapHour_288 rfl (lv_at hl 2 rfl) ?_
    have h7 := (rdK_e hf).1
    refine r_ald C hP aM_4 h7 dX11_heapHour_289 ?_
    refine lv_topi (fun v6 ev6 => ?_)
    replace hf := rdK_n ev6 hf
    refine lv_aload_n hx hb dX11_heapHour_290 rfl (lv_at hl 1 rfl) ?_
    refine r_get (k := 43) (v := .ref (ea E 26)) C hP oM_0 rfl iX11 (by decide) wm_t1060 rfl rfl dX11_heapHour_291 ?_
    refine lv_iload_n hx hb dX11_heapHour_294 rfl (lv_at hl 2 rfl) ?_
    refine lv_bipush (v := 64) hx hb dX11_heapHour_295 (by decide) ?_
    refine lv_iadd hx hb dX11_heapHour_297 ?_
    have h9 := (rdK_e hf).1
    refine r_ald C hP aM_26 h9 dX11_heapHour_298 ?_
    refine lv_topi (fun v8 ev8 => ?_)
    replace hf := rdK_n ev8 hf
    refine r_cVi (n := 2) (As := [.int v6, .int v8]) (rest := [.int x1, .ref (ea E 4)]) C (c_fX11_more hj σ H.size v6 v8) oM_0 rfl gv_RX11_303 (by decide +kernel) (rmD_le (by decide) (by decide)) rfl rfl (Nat.le_of_ble_eq_true rfl) dX11_heapHour_299 hP hS hl.1 (fun H locs hP hS => ?_)
    obtain ⟨h11, σ10, eσ10, hf⟩ := wrK_e hf
    refine r_ast C hP hS aM_4 h11 dX11_heapHour_302 (fun H locs hP hS => ?_)
    rw [← eσ10] at hP
    refine lv_aload_n hx hb dX11_heapHour_303 rfl (lv_at hl 1 rfl) ?_
    refine lv_aload_n hx hb dX11_heapHour_304 rfl (lv_at hl 1 rfl) ?_
    refine r_get (k := 11) (v := .int (σ10 0 11)) C hP oM_0 rfl iX11 (by decide) wm_t1028 rfl rfl dX11_heapHour_305 ?_
    refine lv_iload_n hx hb dX11_heapHour_308 rfl (lv_at hl 0 rfl) ?_
    refine lv_iadd hx hb dX11_heapHour_309 ?_
    refine lv_aload_n hx hb dX11_heapHour_310 rfl (lv_at hl 1 rfl) ?_
    refine r_get (k := 6) (v := .ref (ea E 4)) C hP oM_0 rfl iX11 (by decide) wm_t1023 rfl rfl dX11_heapHour_311 ?_
    refine lv_iload_n hx hb dX11_heapHour_314 rfl (lv_at hl 2 rfl) ?_
    have h13 := (rdK_e hf).1
    refine r_ald C hP aM_4 h13 dX11_heapHour_315 ?_
    refine lv_topi (fun v12 ev12 => ?_)
    replace hf := rdK_n ev12 hf
    refine lv_isub hx hb dX11_heapHour_316 ?_
    refine r_put (k := 11) (x := (((σ10 0 11) + (v2 + v4)) - v12)) C hP hS tyX11 tyX11_ok nmX11 oM_0 rfl iX11 (by decide) wm_t1028 rfl rfl sM_0_11 rfl rfl (Nat.le_of_ble_eq_true rfl) dX11_heapHour_317 (fun H locs hP hS => ?_)
    obtain ⟨σ14, eσ14, hf⟩ := nmS_e hf
    rw [← eσ14] at hP
    refine lv_iinc (v := (x1 + 1)) (lv' := [(1, .int (x1 + 1)), (2, .int (v2 + v4)), (0, .ref (ea E 0))]) hx hb dX11_heapHour_320 hl (k := 2) rfl rfl (by decide) rfl (fun ls hl => ?_)
    refine lv_goto (tgt := 254) hx hb dX11_heapHour_323 (by decide) ?_
    exact hr254 σ14 (x1 + 1) hf H locs ls hP hS (lv_sub hl [2, 0] rfl)
def fX11_heapHour_254 : Nat → St → Int32 → Option St
  | 0 => fun _ _ => none
  | n + 1 => fun σ x1 => fX11_heapHour_254B (fX11_heapHour_254 n) σ x1
theorem b_fX11_heapHour_254 {E : Ev} {l : Launch} {p : Program} {e : Env} {s : State} {m : MethodId} {args : Array Value} {below : List Frame} {meth : Method} {c : Code} (C : CX false E RX11 cX11_heapHour 5 none p s m args meth c) {sr : St} : ∀ (n : Nat) (σ : St) (x1 : Int32), fX11_heapHour_254 n σ x1 = some sr → GW false l (rmD 4) E 5 p e s m args below meth c (MQ below (QV false E sr s.heap.size) args s 0 0 (aW false E s.heap.size)) σ 254 [(0, .ref (ea E 0)), (1, .int x1)] [] := by
  intro n
  induction n with
  | zero => intro σ x1 hf; have hf : (none : Option _) = some _ := hf; cases hf
  | succ n ih => intro σ x1 hf; exact b_fX11_heapHour_254B C (fX11_heapHour_254 n) ih σ x1 hf
def fX11_heapHour_199B (rec199 : St → Int32 → Option St) (σ : St) (x1 : Int32) : Option St :=
(if 256 ≤ x1 then
fX11_heapHour_254 FU σ 0
else
(rdK 256 (σ 4) x1 fun v2 =>
(rdK 256 (σ 26) x1 fun v4 =>
(wrK 256 σ 4 x1 (v2 - v4) fun σ6 =>
(if 64 ≤ x1 then
rec199 σ6 (x1 + 1)
else
(rdK 256 (σ6 26) x1 fun v9 =>
(nmS (st_put σ6 0 11 ((σ6 0 11) + v9)) fun σ11 =>
rec199 σ11 (x1 + 1))))))))
set_option maxHeartbeats 4000000 in
theorem b_fX11_heapHour_199B {E : Ev} {l : Launch} {p : Program} {e : Env} {s : State} {m : MethodId} {args : Array Value} {below : List Frame} {meth : Method} {c : Code} (C : CX false E RX11 cX11_heapHour 5 none p s m args meth c) {sr : St} (rec199 : St → Int32 → Option St) (hr199 : ∀ (σ : St) (x1 : Int32), rec199 σ x1 = some sr → GW false l (rmD 4) E 5 p e s m args below meth c (MQ below (QV false E sr s.heap.size) args s 0 0 (aW false E s.heap.size)) σ 199 [(0, .ref (ea E 0)), (1, .int x1)] []) : ∀ (σ : St) (x1 : Int32), fX11_heapHour_199B rec199 σ x1 = some sr → GW false l (rmD 4) E 5 p e s m args below meth c (MQ below (QV false E sr s.heap.size) args s 0 0 (aW false E s.heap.size)) σ 199 [(0, .ref (ea E 0)), (1, .int x1)] [] := by
  intro σ x1 hf H locs ls hP hS hl
  obtain ⟨hx, hb, hr, hml, hown, hts, hlocks, hK, hX, hj⟩ := id C
  unfold fX11_heapHour_199B at hf
  refine lv_iload_n hx hb dX11_heapHour_199 rfl (lv_at hl 1 rfl) ?_
  refine lv_sipush (v := 256) hx hb dX11_heapHour_200 (by decide) ?_
  refine lv_icmp_ge (tgt := 252) hx hb dX11_heapHour_203 (by decide) (fun c1 => ?_) (fun c1 => ?_)
  · replace hf := it_t c1 hf
    refine lv_iconst (v := 0) hx hb dX11_heapHour_252 (by decide) ?_
    refine lv_istore_n (lv' := [(1, .int 0), (0, .ref (ea E 0))]) hx hb dX11_heapHour_253 rfl hl (by decide) rfl (fun ls hl => ?_)
    exact b_fX11_heapHour_254 C FU σ 0 hf H locs ls hP hS (lv_sub hl [1, 0] rfl)
  · replace hf := it_f c1 hf
    refine lv_aload_n hx hb dX11_heapHour_206 rfl (lv_at hl 0 rfl) ?_
    refine r_get (k := 6) (v := .ref (ea E 4)) C hP oM_0 rfl iX11 (by decide) wm_t1023 rfl rfl dX11_heapHour_207 ?_
    refine lv_iload_n hx hb dX11_heapHour_210 rfl (lv_at hl 1 rfl) ?_
    refine lv_aload_n hx hb dX11_heapHour_211 rfl (lv_at hl 0 rfl) ?_
    refine r_get (k := 6) (v := .ref (ea E 4)) C hP oM_0 rfl iX11 (by decide) wm_t1023 rfl rfl dX11_heapHour_212 ?_
    refine lv_iload_n hx hb dX11_heapHour_215 rfl (lv_at hl 1 rfl) ?_
    have h3 := (rdK_e hf).1
    refine r_ald C hP aM_4 h3 dX11_heapHour_216 ?_
    refine lv_topi (fun v2 ev2 => ?_)
    replace hf := rdK_n ev2 hf
    refine lv_aload_n hx hb dX11_heapHour_217 rfl (lv_at hl 0 rfl) ?_
    refine r_get (k := 43) (v := .ref (ea E 26)) C hP oM_0 rfl iX11 (by decide) wm_t1060 rfl rfl dX11_heapHour_218 ?_
    refine lv_iload_n hx hb dX11_heapHour_221 rfl (lv_at hl 1 rfl) ?_
    have h5 := (rdK_e hf).1
    refine r_ald C hP aM_26 h5 dX11_heapHour_222 ?_
    refine lv_topi (fun v4 ev4 => ?_)
    replace hf := rdK_n ev4 hf
    refine lv_isub hx hb dX11_heapHour_223 ?_
    obtain ⟨h7, σ6, eσ6, hf⟩ := wrK_e hf
    refine r_ast C hP hS aM_4 h7 dX11_heapHour_224 (fun H locs hP hS => ?_)
    rw [← eσ6] at hP
    refine lv_iload_n hx hb dX11_heapHour_225 rfl (lv_at hl 1 rfl) ?_
    refine lv_bipush (v := 64) hx hb dX11_heapHour_226 (by decide) ?_
    refine lv_icmp_ge (tgt := 246) hx hb dX11_heapHour_228 (by decide) (fun c8 => ?_) (fun c8 => ?_)
    · replace hf := it_t c8 hf
      refine lv_iinc (v := (x1 + 1)) (lv' := [(1, .int (x1 + 1)), (0, .ref (ea E 0))]) hx hb dX11_heapHour_246 hl (k := 1) rfl rfl (by decide) rfl (fun ls hl => ?_)
      refine lv_goto (tgt := 199) hx hb dX11_heapHour_249 (by decide) ?_
      exact hr199 σ6 (x1 + 1) hf H locs ls hP hS (lv_sub hl [1, 0] rfl)
    · replace hf := it_f c8 hf
      refine lv_aload_n hx hb dX11_heapHour_231 rfl (lv_at hl 0 rfl) ?_
      refine lv_aload_n hx hb dX11_heapHour_232 rfl (lv_at hl 0 rfl) ?_
      refine r_get (k := 11) (v := .int (σ6 0 11)) C hP oM_0 rfl iX11 (by decide) wm_t1028 rfl rfl dX11_heapHour_233 ?_
      refine lv_aload_n hx hb dX11_heapHour_236 rfl (lv_at hl 0 rfl) ?_
      refine r_get (k := 43) (v := .ref (ea E 26)) C hP oM_0 rfl iX11 (by decide) wm_t1060 rfl rfl dX11_heapHour_237 ?_
      refine lv_iload_n hx hb dX11_heapHour_240 rfl (lv_at hl 1 rfl) ?_
      have h10 := (rdK_e hf).1
      refine r_ald C hP aM_26 h10 dX11_heapHour_241 ?_
      refine lv_topi (fun v9 ev9 => ?_)
      replace hf := rdK_n ev9 hf
      refine lv_iadd hx hb dX11_heapHour_242 ?_
      refine r_put (k := 11) (x := ((σ6 0 11) + v9)) C hP hS tyX11 tyX11_ok nmX11 oM_0 rfl iX11 (by decide) wm_t1028 rfl rfl sM_0_11 rfl rfl (Nat.le_of_ble_eq_true rfl) dX11_heapHour_243 (fun H locs hP hS => ?_)
      obtain ⟨σ11, eσ11, hf⟩ := nmS_e hf
      rw [← eσ11] at hP
      refine lv_iinc (v := (x1 + 1)) (lv' := [(1, .int (x1 + 1)), (0, .ref (ea E 0))]) hx hb dX11_heapHour_246 hl (k := 1) rfl rfl (by decide) rfl (fun ls hl => ?_)
      refine lv_goto (tgt := 199) hx hb dX11_heapHour_249 (by decide) ?_
      exact hr199 σ11 (x1 + 1) hf H locs ls hP hS (lv_sub hl [1, 0] rfl)
def fX11_heapHour_199 : Nat → St → Int32 → Option St
  | 0 => fun _ _ => none
  | n + 1 => fun σ x1 => fX11_heapHour_199B (fX11_heapHour_199 n) σ x1
theorem b_fX11_heapHour_199 {E : Ev} {l : Launch} {p : Program} {e : Env} {s : State} {m : MethodId} {args : Array Value} {below : List Frame} {meth : Method} {c : Code} (C : CX false E RX11 cX11_heapHour 5 none p s m args meth c) {sr : St} : ∀ (n : Nat) (σ : St) (x1 : Int32), fX11_heapHour_199 n σ x1 = some sr → GW false l (rmD 4) E 5 p e s m args below meth c (MQ below (QV false E sr s.heap.size) args s 0 0 (aW false E s.heap.size)) σ 199 [(0, .ref (ea E 0)), (1, .int x1)] [] := by
  intro n
  induction n with
  | zero => intro σ x1 hf; have hf : (none : Option _) = some _ := hf; cases hf
  | succ n ih => intro σ x1 hf; exact b_fX11_heapHour_199B C (fX11_heapHour_199 n) ih σ x1 hf
def fX11_heapHour_139B (rec139 : St → Int32 → Option St) (σ : St) (x1 : Int32) : Option St :=
(if 256 ≤ x1 then
fX11_heapHour_199 FU σ 0
else
(wrK 256 σ 26 x1 0 fun σ2 =>
(rdK 256 (σ2 3) x1 fun v4 =>
(if v4 = 0 then
rec139 σ2 (x1 + 1)
else
(cv (fX11_takesHeap σ2 x1) fun σ8 =>
(cb (fX11_lawOf σ8 0) fun r9 σ11 =>
(rdK 256 (σ11 4) x1 fun v12 =>
(wrK 256 σ11 26 x1 (fX11_cut r9 v12) fun σ14 =>
rec139 σ14 (x1 + 1)))))))))
set_option maxHeartbeats 4000000 in
theorem b_fX11_heapHour_139B {E : Ev} {l : Launch} {p : Program} {e : Env} {s : State} {m : MethodId} {args : Array Value} {below : List Frame} {meth : Method} {c : Code} (C : CX false E RX11 cX11_heapHour 5 none p s m args meth c) {sr : St} (rec139 : St → Int32 → Option St) (hr139 : ∀ (σ : St) (x1 : Int32), rec139 σ x1 = some sr → GW false l (rmD 4) E 5 p e s m args below meth c (MQ below (QV false E sr s.heap.size) args s 0 0 (aW false E s.heap.size)) σ 139 [(0, .ref (ea E 0)), (1, .int x1)] []) : ∀ (σ : St) (x1 : Int32), fX11_heapHour_139B rec139 σ x1 = some sr → GW false l (rmD 4) E 5 p e s m args below meth c (MQ below (QV false E sr s.heap.size) args s 0 0 (aW false E s.heap.size)) σ 139 [(0, .ref (ea E 0)), (1, .int x1)] [] := by
  intro σ x1 hf H locs ls hP hS hl
  obtain ⟨hx, hb, hr, hml, hown, hts, hlocks, hK, hX, hj⟩ := id C
  unfold fX11_heapHour_139B at hf
  refine lv_iload_n hx hb dX11_heapHour_139 rfl (lv_at hl 1 rfl) ?_
  refine lv_sipush (v := 256) hx hb dX11_heapHour_140 (by decide) ?_
  refine lv_icmp_ge (tgt := 197) hx hb dX11_heapHour_143 (by decide) (fun c1 => ?_) (fun c1 => ?_)
  · replace hf := it_t c1 hf
    refine lv_iconst (v := 0) hx hb dX11_heapHour_197 (by decide) ?_
    refine lv_istore_n (lv' := [(1, .int 0), (0, .ref (ea E 0))]) hx hb dX11_heapHour_198 rfl hl (by decide) rfl (fun ls hl => ?_)
    exact b_fX11_heapHour_199 C FU σ 0 hf H locs ls hP hS (lv_sub hl [1, 0] rfl)
  · replace hf := it_f c1 hf
    refine lv_aload_n hx hb dX11_heapHour_146 rfl (lv_at hl 0 rfl) ?_
    refine r_get (k := 43) (v := .ref (ea E 26)) C hP oM_0 rfl iX11 (by decide) wm_t1060 rfl rfl dX11_heapHour_147 ?_
    refine lv_iload_n hx hb dX11_heapHour_150 rfl (lv_at hl 1 rfl) ?_
    refine lv_iconst (v := 0) hx hb dX11_heapHour_151 (by decide) ?_
    obtain ⟨h3, σ2, eσ2, hf⟩ := wrK_e hf
    refine r_ast C hP hS aM_26 h3 dX11_heapHour_152 (fun H locs hP hS => ?_)
    rw [← eσ2] at hP
    refine lv_aload_n hx hb dX11_heapHour_153 rfl (lv_at hl 0 rfl) ?_
    refine r_get (k := 5) (v := .ref (ea E 3)) C hP oM_0 rfl iX11 (by decide) wm_t1022 rfl rfl dX11_heapHour_154 ?_
    refine lv_iload_n hx hb dX11_heapHour_157 rfl (lv_at hl 1 rfl) ?_
    have h5 := (rdK_e hf).1
    refine r_ald C hP aM_3 h5 dX11_heapHour_158 ?_
    refine lv_topi (fun v4 ev4 => ?_)
    replace hf := rdK_n ev4 hf
    refine lv_if_ne (tgt := 165) hx hb dX11_heapHour_159 (by decide) (fun c6 => ?_) (fun c6 => ?_)
    · replace hf := it_f c6 hf
      refine lv_aload_n hx hb dX11_heapHour_165 rfl (lv_at hl 0 rfl) ?_
      refine lv_iload_n hx hb dX11_heapHour_166 rfl (lv_at hl 1 rfl) ?_
      obtain ⟨σ8, hc7, hf⟩ := cv_e hf
      refine r_cVv (n := 1) (As := [.int x1]) (rest := []) C (c_fX11_takesHeap hj σ2 H.size x1 hc7) oM_0 rfl gv_RX11_294 (by decide +kernel) (rmD_le (by decide) (by decide)) rfl rfl (Nat.le_of_ble_eq_true rfl) dX11_heapHour_167 hP hS hl.1 (fun H locs hP hS => ?_)
      refine lv_aload_n hx hb dX11_heapHour_170 rfl (lv_at hl 0 rfl) ?_
      refine r_get (k := 43) (v := .ref (ea E 26)) C hP oM_0 rfl iX11 (by decide) wm_t1060 rfl rfl dX11_heapHour_171 ?_
      refine lv_iload_n hx hb dX11_heapHour_174 rfl (lv_at hl 1 rfl) ?_
      refine lv_aload_n hx hb dX11_heapHour_175 rfl (lv_at hl 0 rfl) ?_
      refine lv_aload_n hx hb dX11_heapHour_176 rfl (lv_at hl 0 rfl) ?_
      refine lv_iconst (v := 0) hx hb dX11_heapHour_177 (by decide) ?_
      obtain ⟨r9, σ11, hc10, hf⟩ := cb_e hf
      refine r_cVi (n := 1) (As := [.int 0]) (rest := [.ref (ea E 0), .int x1, .ref (ea E 26)]) C (c_fX11_lawOf hj σ8 H.size 0 hc10) oM_0 rfl gv_RX11_300 (by decide +kernel) (rmD_le (by decide) (by decide)) rfl rfl (Nat.le_of_ble_eq_true rfl) dX11_heapHour_178 hP hS hl.1 (fun H locs hP hS => ?_)
      refine lv_aload_n hx hb dX11_heapHour_181 rfl (lv_at hl 0 rfl) ?_
      refine r_get (k := 6) (v := .ref (ea E 4)) C hP oM_0 rfl iX11 (by decide) wm_t1023 rfl rfl dX11_heapHour_182 ?_
      refine lv_iload_n hx hb dX11_heapHour_185 rfl (lv_at hl 1 rfl) ?_
      have h13 := (rdK_e hf).1
      refine r_ald C hP aM_4 h13 dX11_heapHour_186 ?_
      refine lv_topi (fun v12 ev12 => ?_)
      replace hf := rdK_n ev12 hf
      refine r_cVi (n := 2) (As := [.int r9, .int v12]) (rest := [.int x1, .ref (ea E 26)]) C (c_fX11_cut hj σ11 H.size r9 v12) oM_0 rfl gv_RX11_309 (by decide +kernel) (rmD_le (by decide) (by decide)) rfl rfl (Nat.le_of_ble_eq_true rfl) dX11_heapHour_187 hP hS hl.1 (fun H locs hP hS => ?_)
      obtain ⟨h15, σ14, eσ14, hf⟩ := wrK_e hf
      refine r_ast C hP hS aM_26 h15 dX11_heapHour_190 (fun H locs hP hS => ?_)
      rw [← eσ14] at hP
      refine lv_iinc (v := (x1 + 1)) (lv' := [(1, .int (x1 + 1)), (0, .ref (ea E 0))]) hx hb dX11_heapHour_191 hl (k := 1) rfl rfl (by decide) rfl (fun ls hl => ?_)
      refine lv_goto (tgt := 139) hx hb dX11_heapHour_194 (by decide) ?_
      exact hr139 σ14 (x1 + 1) hf H locs ls hP hS (lv_sub hl [1, 0] rfl)
    · replace hf := it_t c6 hf
      refine lv_goto (tgt := 191) hx hb dX11_heapHour_162 (by decide) ?_
      refine lv_iinc (v := (x1 + 1)) (lv' := [(1, .int (x1 + 1)), (0, .ref (ea E 0))]) hx hb dX11_heapHour_191 hl (k := 1) rfl rfl (by decide) rfl (fun ls hl => ?_)
      refine lv_goto (tgt := 139) hx hb dX11_heapHour_194 (by decide) ?_
      exact hr139 σ2 (x1 + 1) hf H locs ls hP hS (lv_sub hl [1, 0] rfl)
def fX11_heapHour_139 : Nat → St → Int32 → Option St
  | 0 => fun _ _ => none
  | n + 1 => fun σ x1 => fX11_heapHour_139B (fX11_heapHour_139 n) σ x1
theorem b_fX11_heapHour_139 {E : Ev} {l : Launch} {p : Program} {e : Env} {s : State} {m : MethodId} {args : Array Value} {below : List Frame} {meth : Method} {c : Code} (C : CX false E RX11 cX11_heapHour 5 none p s m args meth c) {sr : St} : ∀ (n : Nat) (σ : St) (x1 : Int32), fX11_heapHour_139 n σ x1 = some sr → GW false l (rmD 4) E 5 p e s m args below meth c (MQ below (QV false E sr s.heap.size) args s 0 0 (aW false E s.heap.size)) σ 139 [(0, .ref (ea E 0)), (1, .int x1)] [] := by
  intro n
  induction n with
  | zero => intro σ x1 hf; have hf : (none : Option _) = some _ := hf; cases hf
  | succ n ih => intro σ x1 hf; exact b_fX11_heapHour_139B C (fX11_heapHour_139 n) ih σ x1 hf
def fX11_heapHour_2B (rec2 : St → Int32 → Option St) (σ : St) (x1 : Int32) : Option St :=
(if 64 ≤ x1 then
fX11_heapHour_139 FU σ 0
else
(cq (fX11_heapHeight σ x1) fun r2 =>
(if r2 = 0 then
rec2 σ (x1 + 1)
else
(rdK 256 (σ 4) (((64 * r2) - 64) + x1) fun v5 =>
(rdK 30 (σ 1) ((σ 0 1) / 24) fun v7 =>
(rdK 256 (σ 4) (((64 * r2) - 64) + x1) fun v9 =>
(rdK 30 (σ 1) ((σ 0 1) / 24) fun v11 =>
(wrK 256 σ 4 (((64 * r2) - 64) + x1) (fX11_more v9 v11) fun σ13 =>
(rdK 256 (σ13 4) (((64 * r2) - 64) + x1) fun v15 =>
(nmS (st_put σ13 0 11 (((σ13 0 11) + (v5 + v7)) - v15)) fun σ17 =>
(cv (fX11_takesHeap σ17 (((64 * r2) - 64) + x1)) fun σ19 =>
(rdK 256 (σ19 4) (((64 * r2) - 64) + x1) fun v20 =>
(cb (fX11_lawOf σ19 1) fun r22 σ24 =>
(rdK 256 (σ24 4) (((64 * r2) - 64) + x1) fun v25 =>
(wrK 256 σ24 4 (((64 * r2) - 64) + x1) (v20 - (fX11_cut r22 v25)) fun σ27 =>
rec2 σ27 (x1 + 1))))))))))))))))
set_option maxHeartbeats 4000000 in
theorem b_fX11_heapHour_2B {E : Ev} {l : Launch} {p : Program} {e : Env} {s : State} {m : MethodId} {args : Array Value} {below : List Frame} {meth : Method} {c : Code} (C : CX false E RX11 cX11_heapHour 5 none p s m args meth c) {sr : St} (rec2 : St → Int32 → Option St) (hr2 : ∀ (σ : St) (x1 : Int32), rec2 σ x1 = some sr → GW false l (rmD 4) E 5 p e s m args below meth c (MQ below (QV false E sr s.heap.size) args s 0 0 (aW false E s.heap.size)) σ 2 [(0, .ref (ea E 0)), (1, .int x1)] []) : ∀ (σ : St) (x1 : Int32), fX11_heapHour_2B rec2 σ x1 = some sr → GW false l (rmD 4) E 5 p e s m args below meth c (MQ below (QV false E sr s.heap.size) args s 0 0 (aW false E s.heap.size)) σ 2 [(0, .ref (ea E 0)), (1, .int x1)] [] := by
  intro σ x1 hf H locs ls hP hS hl
  obtain ⟨hx, hb, hr, hml, hown, hts, hlocks, hK, hX, hj⟩ := id C
  unfold fX11_heapHour_2B at hf
  refine lv_iload_n hx hb dX11_heapHour_2 rfl (lv_at hl 1 rfl) ?_
  refine lv_bipush (v := 64) hx hb dX11_heapHour_3 (by decide) ?_
  refine lv_icmp_ge (tgt := 137) hx hb dX11_heapHour_5 (by decide) (fun c1 => ?_) (fun c1 => ?_)
  · replace hf := it_t c1 hf
    refine lv_iconst (v := 0) hx hb dX11_heapHour_137 (by decide) ?_
    refine lv_istore_n (lv' := [(1, .int 0), (0, .ref (ea E 0))]) hx hb dX11_heapHour_138 rfl hl (by decide) rfl (fun ls hl => ?_)
    exact b_fX11_heapHour_139 C FU σ 0 hf H locs ls hP hS (lv_sub hl [1, 0] rfl)
  · replace hf := it_f c1 hf
    refine lv_aload_n hx hb dX11_heapHour_8 rfl (lv_at hl 0 rfl) ?_
    refine lv_iload_n hx hb dX11_heapHour_9 rfl (lv_at hl 1 rfl) ?_
    obtain ⟨r2, hc3, hf⟩ := cq_e hf
    refine r_cVi (n := 1) (As := [.int x1]) (rest := []) C (c_fX11_heapHeight hj σ H.size x1 hc3) oM_0 rfl gv_RX11_290 (by decide +kernel) (rmD_le (by decide) (by decide)) rfl rfl (Nat.le_of_ble_eq_true rfl) dX11_heapHour_10 hP hS hl.1 (fun H locs hP hS => ?_)
    refine lv_istore_n (lv' := [(2, .int r2), (0, .ref (ea E 0)), (1, .int x1)]) hx hb dX11_heapHour_13 rfl hl (by decide) rfl (fun ls hl => ?_)
    refine lv_iload_n hx hb dX11_heapHour_14 rfl (lv_at hl 0 rfl) ?_
    refine lv_if_ne (tgt := 21) hx hb dX11_heapHour_15 (by decide) (fun c4 => ?_) (fun c4 => ?_)
    · replace hf := it_f c4 hf
      refine lv_bipush (v := 64) hx hb dX11_heapHour_21 (by decide) ?_
      refine lv_iload_n hx hb dX11_heapHour_23 rfl (lv_at hl 0 rfl) ?_
      refine lv_imul hx hb dX11_heapHour_24 ?_
      refine lv_bipush (v := 64) hx hb dX11_heapHour_25 (by decide) ?_
      refine lv_isub hx hb dX11_heapHour_27 ?_
      refine lv_iload_n hx hb dX11_heapHour_28 rfl (lv_at hl 2 rfl) ?_
      refine lv_iadd hx hb dX11_heapHour_29 ?_
      refine lv_istore_n (lv' := [(3, .int (((64 * r2) - 64) + x1)), (2, .int r2), (0, .ref (ea E 0)), (1, .int x1)]) hx hb dX11_heapHour_30 rfl hl (by decide) rfl (fun ls hl => ?_)
      refine lv_aload_n hx hb dX11_heapHour_31 rfl (lv_at hl 2 rfl) ?_
      refine r_get (k := 6) (v := .ref (ea E 4)) C hP oM_0 rfl iX11 (by decide) wm_t1023 rfl rfl dX11_heapHour_32 ?_
      refine lv_iload_n hx hb dX11_heapHour_35 rfl (lv_at hl 0 rfl) ?_
      have h6 := (rdK_e hf).1
      refine r_ald C hP aM_4 h6 dX11_heapHour_36 ?_
      refine lv_topi (fun v5 ev5 => ?_)
      replace hf := rdK_n ev5 hf
      refine lv_aload_n hx hb dX11_heapHour_37 rfl (lv_at hl 2 rfl) ?_
      refine r_get (k := 3) (v := .ref (ea E 1)) C hP oM_0 rfl iX11 (by decide) wm_t1020 rfl rfl dX11_heapHour_38 ?_
      refine lv_aload_n hx hb dX11_heapHour_41 rfl (lv_at hl 2 rfl) ?_
      refine r_get (k := 1) (v := .int (σ 0 1)) C hP oM_0 rfl iX11 (by decide) wm_t1018 rfl rfl dX11_heapHour_42 ?_
      refine lv_bipush (v := 24) hx hb dX11_heapHour_45 (by decide) ?_
      refine lv_idiv hx hb dX11_heapHour_47 (by decide) ?_
      have h8 := (rdK_e hf).1
      refine r_ald C hP aM_1 h8 dX11_heapHour_48 ?_
      refine lv_topi (fun v7 ev7 => ?_)
      replace hf := rdK_n ev7 hf
      refine lv_iadd hx hb dX11_heapHour_49 ?_
      refine lv_istore (lv' := [(4, .int (v5 + v7)), (3, .int (((64 * r2) - 64) + x1)), (2, .int r2), (0, .ref (ea E 0)), (1, .int x1)]) hx hb dX11_heapHour_50 hl (by decide) rfl (fun ls hl => ?_)
      refine lv_aload_n hx hb dX11_heapHour_52 rfl (lv_at hl 3 rfl) ?_
      refine r_get (k := 6) (v := .ref (ea E 4)) C hP oM_0 rfl iX11 (by decide) wm_t1023 rfl rfl dX11_heapHour_53 ?_
      refine lv_iload_n hx hb dX11_heapHour_56 rfl (lv_at hl 1 rfl) ?_
      refine lv_aload_n hx hb dX11_heapHour_57 rfl (lv_at hl 3 rfl) ?_
      refine lv_aload_n hx hb dX11_heapHour_58 rfl (lv_at hl 3 rfl) ?_
      refine r_get (k := 6) (v := .ref (ea E 4)) C hP oM_0 rfl iX11 (by decide) wm_t1023 rfl rfl dX11_heapHour_59 ?_
      refine lv_iload_n hx hb dX11_heapHour_62 rfl (lv_at hl 1 rfl) ?_
      have h10 := (rdK_e hf).1
      refine r_ald C hP aM_4 h10 dX11_heapHour_63 ?_
      refine lv_topi (fun v9 ev9 => ?_)
      replace hf := rdK_n ev9 hf
      refine lv_aload_n hx hb dX11_heapHour_64 rfl (lv_at hl 3 rfl) ?_
      refine r_get (k := 3) (v := .ref (ea E 1)) C hP oM_0 rfl iX11 (by decide) wm_t1020 rfl rfl dX11_heapHour_65 ?_
      refine lv_aload_n hx hb dX11_heapHour_68 rfl (lv_at hl 3 rfl) ?_
      refine r_get (k := 1) (v := .int (σ 0 1)) C hP oM_0 rfl iX11 (by decide) wm_t1018 rfl rfl dX11_heapHour_69 ?_
      refine lv_bipush (v := 24) hx hb dX11_heapHour_72 (by decide) ?_
      refine lv_idiv hx hb dX11_heapHour_74 (by decide) ?_
      have h12 := (rdK_e hf).1
      refine r_ald C hP aM_1 h12 dX11_heapHour_75 ?_
      refine lv_topi (fun v11 ev11 => ?_)
      replace hf := rdK_n ev11 hf
      refine r_cVi (n := 2) (As := [.int v9, .int v11]) (rest := [.int (((64 * r2) - 64) + x1), .ref (ea E 4)]) C (c_fX11_more hj σ H.size v9 v11) oM_0 rfl gv_RX11_303 (by decide +kernel) (rmD_le (by decide) (by decide)) rfl rfl (Nat.le_of_ble_eq_true rfl) dX11_heapHour_76 hP hS hl.1 (fun H locs hP hS => ?_)
      obtain ⟨h14, σ13, eσ13, hf⟩ := wrK_e hf
      refine r_ast C hP hS aM_4 h14 dX11_heapHour_79 (fun H locs hP hS => ?_)
      rw [← eσ13] at hP
      refine lv_aload_n hx hb dX11_heapHour_80 rfl (lv_at hl 3 rfl) ?_
      refine lv_aload_n hx hb dX11_heapHour_81 rfl (lv_at hl 3 rfl) ?_
      refine r_get (k := 11) (v := .int (σ13 0 11)) C hP oM_0 rfl iX11 (by decide) wm_t1028 rfl rfl dX11_heapHour_82 ?_
      refine lv_iload hx hb dX11_heapHour_85 (lv_at hl 0 rfl) ?_
      refine lv_iadd hx hb dX11_heapHour_87 ?_
      refine lv_aload_n hx hb dX11_heapHour_88 rfl (lv_at hl 3 rfl) ?_
      refine r_get (k := 6) (v := .ref (ea E 4)) C hP oM_0 rfl iX11 (by decide) wm_t1023 rfl rfl dX11_heapHour_89 ?_
      refine lv_iload_n hx hb dX11_heapHour_92 rfl (lv_at hl 1 rfl) ?_
      have h16 := (rdK_e hf).1
      refine r_ald C hP aM_4 h16 dX11_heapHour_93 ?_
      refine lv_topi (fun v15 ev15 => ?_)
      replace hf := rdK_n ev15 hf
      refine lv_isub hx hb dX11_heapHour_94 ?_
      refine r_put (k := 11) (x := (((σ13 0 11) + (v5 + v7)) - v15)) C hP hS tyX11 tyX11_ok nmX11 oM_0 rfl iX11 (by decide) wm_t1028 rfl rfl sM_0_11 rfl rfl (Nat.le_of_ble_eq_true rfl) dX11_heapHour_95 (fun H locs hP hS => ?_)
      obtain ⟨σ17, eσ17, hf⟩ := nmS_e hf
      rw [← eσ17] at hP
      refine lv_aload_n hx hb dX11_heapHour_98 rfl (lv_at hl 3 rfl) ?_
      refine lv_iload_n hx hb dX11_heapHour_99 rfl (lv_at hl 1 rfl) ?_
      obtain ⟨σ19, hc18, hf⟩ := cv_e hf
      refine r_cVv (n := 1) (As := [.int (((64 * r2) - 64) + x1)]) (rest := []) C (c_fX11_takesHeap hj σ17 H.size (((64 * r2) - 64) + x1) hc18) oM_0 rfl gv_RX11_294 (by decide +kernel) (rmD_le (by decide) (by decide)) rfl rfl (Nat.le_of_ble_eq_true rfl) dX11_heapHour_100 hP hS hl.1 (fun H locs hP hS => ?_)
      refine lv_aload_n hx hb dX11_heapHour_103 rfl (lv_at hl 3 rfl) ?_
      refine r_get (k := 6) (v := .ref (ea E 4)) C hP oM_0 rfl iX11 (by decide) wm_t1023 rfl rfl dX11_heapHour_104 ?_
      refine lv_iload_n hx hb dX11_heapHour_107 rfl (lv_at hl 1 rfl) ?_
      refine lv_aload_n hx hb dX11_heapHour_108 rfl (lv_at hl 3 rfl) ?_
      refine r_get (k := 6) (v := .ref (ea E 4)) C hP oM_0 rfl iX11 (by decide) wm_t1023 rfl rfl dX11_heapHour_109 ?_
      refine lv_iload_n hx hb dX11_heapHour_112 rfl (lv_at hl 1 rfl) ?_
      have h21 := (rdK_e hf).1
      refine r_ald C hP aM_4 h21 dX11_heapHour_113 ?_
      refine lv_topi (fun v20 ev20 => ?_)
      replace hf := rdK_n ev20 hf
      refine lv_aload_n hx hb dX11_heapHour_114 rfl (lv_at hl 3 rfl) ?_
      refine lv_aload_n hx hb dX11_heapHour_115 rfl (lv_at hl 3 rfl) ?_
      refine lv_iconst (v := 1) hx hb dX11_heapHour_116 (by decide) ?_
      obtain ⟨r22, σ24, hc23, hf⟩ := cb_e hf
      refine r_cVi (n := 1) (As := [.int 1]) (rest := [.ref (ea E 0), .int v20, .int (((64 * r2) - 64) + x1), .ref (ea E 4)]) C (c_fX11_lawOf hj σ19 H.size 1 hc23) oM_0 rfl gv_RX11_300 (by decide +kernel) (rmD_le (by decide) (by decide)) rfl rfl (Nat.le_of_ble_eq_true rfl) dX11_heapHour_117 hP hS hl.1 (fun H locs hP hS => ?_)
      refine lv_aload_n hx hb dX11_heapHour_120 rfl (lv_at hl 3 rfl) ?_
      refine r_get (k := 6) (v := .ref (ea E 4)) C hP oM_0 rfl iX11 (by decide) wm_t1023 rfl rfl dX11_heapHour_121 ?_
      refine lv_iload_n hx hb dX11_heapHour_124 rfl (lv_at hl 1 rfl) ?_
      have h26 := (rdK_e hf).1
      refine r_ald C hP aM_4 h26 dX11_heapHour_125 ?_
      refine lv_topi (fun v25 ev25 => ?_)
      replace hf := rdK_n ev25 hf
      refine r_cVi (n := 2) (As := [.int r22, .int v25]) (rest := [.int v20, .int (((64 * r2) - 64) + x1), .ref (ea E 4)]) C (c_fX11_cut hj σ24 H.size r22 v25) oM_0 rfl gv_RX11_309 (by decide +kernel) (rmD_le (by decide) (by decide)) rfl rfl (Nat.le_of_ble_eq_true rfl) dX11_heapHour_126 hP hS hl.1 (fun H locs hP hS => ?_)
      refine lv_isub hx hb dX11_heapHour_129 ?_
      obtain ⟨h28, σ27, eσ27, hf⟩ := wrK_e hf
      refine r_ast C hP hS aM_4 h28 dX11_heapHour_130 (fun H locs hP hS => ?_)
      rw [← eσ27] at hP
      refine lv_iinc (v := (x1 + 1)) (lv' := [(1, .int (x1 + 1)), (4, .int (v5 + v7)), (3, .int (((64 * r2) - 64) + x1)), (2, .int r2), (0, .ref (ea E 0))]) hx hb dX11_heapHour_131 hl (k := 4) rfl rfl (by decide) rfl (fun ls hl => ?_)
      refine lv_goto (tgt := 2) hx hb dX11_heapHour_134 (by decide) ?_
      exact hr2 σ27 (x1 + 1) hf H locs ls hP hS (lv_sub hl [4, 0] rfl)
    · replace hf := it_t c4 hf
      refine lv_goto (tgt := 131) hx hb dX11_heapHour_18 (by decide) ?_
      refine lv_iinc (v := (x1 + 1)) (lv' := [(1, .int (x1 + 1)), (2, .int r2), (0, .ref (ea E 0))]) hx hb dX11_heapHour_131 hl (k := 2) rfl rfl (by decide) rfl (fun ls hl => ?_)
      refine lv_goto (tgt := 2) hx hb dX11_heapHour_134 (by decide) ?_
      exact hr2 σ (x1 + 1) hf H locs ls hP hS (lv_sub hl [2, 0] rfl)
def fX11_heapHour_2 : Nat → St → Int32 → Option St
  | 0 => fun _ _ => none
  | n + 1 => fun σ x1 => fX11_heapHour_2B (fX11_heapHour_2 n) σ x1
theorem b_fX11_heapHour_2 {E : Ev} {l : Launch} {p : Program} {e : Env} {s : State} {m : MethodId} {args : Array Value} {below : List Frame} {meth : Method} {c : Code} (C : CX false E RX11 cX11_heapHour 5 none p s m args meth c) {sr : St} : ∀ (n : Nat) (σ : St) (x1 : Int32), fX11_heapHour_2 n σ x1 = some sr → GW false l (rmD 4) E 5 p e s m args below meth c (MQ below (QV false E sr s.heap.size) args s 0 0 (aW false E s.heap.size)) σ 2 [(0, .ref (ea E 0)), (1, .int x1)] [] := by
  intro n
  induction n with
  | zero => intro σ x1 hf; have hf : (none : Option _) = some _ := hf; cases hf
  | succ n ih => intro σ x1 hf; exact b_fX11_heapHour_2B C (fX11_heapHour_2 n) ih σ x1 hf
def fX11_heapHour (σ : St) : Option St :=
fX11_heapHour_2 FU σ 0
set_option maxHeartbeats 4000000 in
theorem c_fX11_heapHour {E : Ev} {l : Launch} (hj : jW false E) (σ : St) (sz : Nat) {sr : St} (hf : fX11_heapHour σ = some sr) : Met l yX11_heapHour (Cond.code yX11_heapHour cX11_heapHour 5 none :: gT) (rmD 4) (va_Pc [.ref (ea E 0)] (preW false E σ sz)) (QV false E sr sz) 0 0 (aW false E sz) := by
  refine r_entry (QV false E sr) hj (by decide) [.ref (ea E 0)] (Nat.le_of_ble_eq_true rfl) (fun p e s m args below meth c C => ?_)
  intro H locs ls hP hS hl
  have hl : lv_has ls 5 [(0, .ref (ea E 0))] := hl
  obtain ⟨hx, hb, hr, hml, hown, hts, hlocks, hK, hX, hj⟩ := id C
  unfold fX11_heapHour at hf
  refine lv_iconst (v := 0) hx hb dX11_heapHour_0 (by decide) ?_
  refine lv_istore_n (lv' := [(1, .int 0), (0, .ref (ea E 0))]) hx hb dX11_heapHour_1 rfl hl (by decide) rfl (fun ls hl => ?_)
  exact b_fX11_heapHour_2 C FU σ 0 hf H locs ls hP hS (lv_sub hl [1, 0] rfl)
def fX11_shakes_6B (rec6 : St → Int32 → Int32 → Int32 → Option St) (σ : St) (x1 : Int32) (x2 : Int32) (x3 : Int32) : Option St :=
(if ((144 * x1) + 144) ≤ x3 then
some σ
else
(rdK 288 (σ 5) x3 fun v2 =>
(if v2 ≤ 0 then
rec6 σ x1 x2 (x3 + 1)
else
(rdK 288 (σ 7) x3 fun v5 =>
(rdK 30 (σ 2) (x2 / 24) fun v7 =>
(wrK 288 σ 7 x3 (fX11_more v5 v7) fun σ9 =>
rec6 σ9 x1 x2 (x3 + 1)))))))
set_option maxHeartbeats 4000000 in
theorem b_fX11_shakes_6B {E : Ev} {l : Launch} {p : Program} {e : Env} {s : State} {m : MethodId} {args : Array Value} {below : List Frame} {meth : Method} {c : Code} (C : CX false E RX11 cX11_shakes 4 none p s m args meth c) {sr : St} (rec6 : St → Int32 → Int32 → Int32 → Option St) (hr6 : ∀ (σ : St) (x1 : Int32) (x2 : Int32) (x3 : Int32), rec6 σ x1 x2 x3 = some sr → GW false l (rmD 2) E 4 p e s m args below meth c (MQ below (QV false E sr s.heap.size) args s 0 0 (aW false E s.heap.size)) σ 6 [(0, .ref (ea E 0)), (1, .int x1), (2, .int x2), (3, .int x3)] []) : ∀ (σ : St) (x1 : Int32) (x2 : Int32) (x3 : Int32), fX11_shakes_6B rec6 σ x1 x2 x3 = some sr → GW false l (rmD 2) E 4 p e s m args below meth c (MQ below (QV false E sr s.heap.size) args s 0 0 (aW false E s.heap.size)) σ 6 [(0, .ref (ea E 0)), (1, .int x1), (2, .int x2), (3, .int x3)] [] := by
  intro σ x1 x2 x3 hf H locs ls hP hS hl
  obtain ⟨hx, hb, hr, hml, hown, hts, hlocks, hK, hX, hj⟩ := id C
  unfold fX11_shakes_6B at hf
  refine lv_iload_n hx hb dX11_shakes_6 rfl (lv_at hl 3 rfl) ?_
  refine lv_sipush (v := 144) hx hb dX11_shakes_7 (by decide) ?_
  refine lv_iload_n hx hb dX11_shakes_10 rfl (lv_at hl 1 rfl) ?_
  refine lv_imul hx hb dX11_shakes_11 ?_
  refine lv_sipush (v := 144) hx hb dX11_shakes_12 (by decide) ?_
  refine lv_iadd hx hb dX11_shakes_15 ?_
  refine lv_icmp_ge (tgt := 59) hx hb dX11_shakes_16 (by decide) (fun c1 => ?_) (fun c1 => ?_)
  · replace hf := it_t c1 hf
    cases hf
    exact r_vret C hP hS dX11_shakes_59
  · replace hf := it_f c1 hf
    refine lv_aload_n hx hb dX11_shakes_19 rfl (lv_at hl 0 rfl) ?_
    refine r_get (k := 7) (v := .ref (ea E 5)) C hP oM_0 rfl iX11 (by decide) wm_t1024 rfl rfl dX11_shakes_20 ?_
    refine lv_iload_n hx hb dX11_shakes_23 rfl (lv_at hl 3 rfl) ?_
    have h3 := (rdK_e hf).1
    refine r_ald C hP aM_5 h3 dX11_shakes_24 ?_
    refine lv_topi (fun v2 ev2 => ?_)
    replace hf := rdK_n ev2 hf
    refine lv_if_le (tgt := 53) hx hb dX11_shakes_25 (by decide) (fun c4 => ?_) (fun c4 => ?_)
    · replace hf := it_t c4 hf
      refine lv_iinc (v := (x3 + 1)) (lv' := [(3, .int (x3 + 1)), (0, .ref (ea E 0)), (1, .int x1), (2, .int x2)]) hx hb dX11_shakes_53 hl (k := 3) rfl rfl (by decide) rfl (fun ls hl => ?_)
      refine lv_goto (tgt := 6) hx hb dX11_shakes_56 (by decide) ?_
      exact hr6 σ x1 x2 (x3 + 1) hf H locs ls hP hS (lv_sub hl [1, 2, 3, 0] rfl)
    · replace hf := it_f c4 hf
      refine lv_aload_n hx hb dX11_shakes_28 rfl (lv_at hl 0 rfl) ?_
      refine r_get (k := 9) (v := .ref (ea E 7)) C hP oM_0 rfl iX11 (by decide) wm_t1026 rfl rfl dX11_shakes_29 ?_
      refine lv_iload_n hx hb dX11_shakes_32 rfl (lv_at hl 3 rfl) ?_
      refine lv_aload_n hx hb dX11_shakes_33 rfl (lv_at hl 0 rfl) ?_
      refine lv_aload_n hx hb dX11_shakes_34 rfl (lv_at hl 0 rfl) ?_
      refine r_get (k := 9) (v := .ref (ea E 7)) C hP oM_0 rfl iX11 (by decide) wm_t1026 rfl rfl dX11_shakes_35 ?_
      refine lv_iload_n hx hb dX11_shakes_38 rfl (lv_at hl 3 rfl) ?_
      have h6 := (rdK_e hf).1
      refine r_ald C hP aM_7 h6 dX11_shakes_39 ?_
      refine lv_topi (fun v5 ev5 => ?_)
      replace hf := rdK_n ev5 hf
      refine lv_aload_n hx hb dX11_shakes_40 rfl (lv_at hl 0 rfl) ?_
      refine r_get (k := 4) (v := .ref (ea E 2)) C hP oM_0 rfl iX11 (by decide) wm_t1021 rfl rfl dX11_shakes_41 ?_
      refine lv_iload_n hx hb dX11_shakes_44 rfl (lv_at hl 2 rfl) ?_
      refine lv_bipush (v := 24) hx hb dX11_shakes_45 (by decide) ?_
      refine lv_idiv hx hb dX11_shakes_47 (by decide) ?_
      have h8 := (rdK_e hf).1
      refine r_ald C hP aM_2 h8 dX11_shakes_48 ?_
      refine lv_topi (fun v7 ev7 => ?_)
      replace hf := rdK_n ev7 hf
      refine r_cVi (n := 2) (As := [.int v5, .int v7]) (rest := [.int x3, .ref (ea E 7)]) C (c_fX11_more hj σ H.size v5 v7) oM_0 rfl gv_RX11_303 (by decide +kernel) (rmD_le (by decide) (by decide)) rfl rfl (Nat.le_of_ble_eq_true rfl) dX11_shakes_49 hP hS hl.1 (fun H locs hP hS => ?_)
      obtain ⟨h10, σ9, eσ9, hf⟩ := wrK_e hf
      refine r_ast C hP hS aM_7 h10 dX11_shakes_52 (fun H locs hP hS => ?_)
      rw [← eσ9] at hP
      refine lv_iinc (v := (x3 + 1)) (lv' := [(3, .int (x3 + 1)), (0, .ref (ea E 0)), (1, .int x1), (2, .int x2)]) hx hb dX11_shakes_53 hl (k := 3) rfl rfl (by decide) rfl (fun ls hl => ?_)
      refine lv_goto (tgt := 6) hx hb dX11_shakes_56 (by decide) ?_
      exact hr6 σ9 x1 x2 (x3 + 1) hf H locs ls hP hS (lv_sub hl [1, 2, 3, 0] rfl)
def fX11_shakes_6 : Nat → St → Int32 → Int32 → Int32 → Option St
  | 0 => fun _ _ _ _ => none
  | n + 1 => fun σ x1 x2 x3 => fX11_shakes_6B (fX11_shakes_6 n) σ x1 x2 x3
theorem b_fX11_shakes_6 {E : Ev} {l : Launch} {p : Program} {e : Env} {s : State} {m : MethodId} {args : Array Value} {below : List Frame} {meth : Method} {c : Code} (C : CX false E RX11 cX11_shakes 4 none p s m args meth c) {sr : St} : ∀ (n : Nat) (σ : St) (x1 : Int32) (x2 : Int32) (x3 : Int32), fX11_shakes_6 n σ x1 x2 x3 = some sr → GW false l (rmD 2) E 4 p e s m args below meth c (MQ below (QV false E sr s.heap.size) args s 0 0 (aW false E s.heap.size)) σ 6 [(0, .ref (ea E 0)), (1, .int x1), (2, .int x2), (3, .int x3)] [] := by
  intro n
  induction n with
  | zero => intro σ x1 x2 x3 hf; have hf : (none : Option _) = some _ := hf; cases hf
  | succ n ih => intro σ x1 x2 x3 hf; exact b_fX11_shakes_6B C (fX11_shakes_6 n) ih σ x1 x2 x3 hf
def fX11_shakes (σ : St) (a0 : Int32) (a1 : Int32) : Option St :=
fX11_shakes_6 FU σ a0 a1 (144 * a0)
set_option maxHeartbeats 4000000 in
theorem c_fX11_shakes {E : Ev} {l : Launch} (hj : jW false E) (σ : St) (sz : Nat) (a0 : Int32) (a1 : Int32) {sr : St} (hf : fX11_shakes σ a0 a1 = some sr) : Met l yX11_shakes (Cond.code yX11_shakes cX11_shakes 4 none :: gT) (rmD 2) (va_Pc [.ref (ea E 0), .int a0, .int a1] (preW false E σ sz)) (QV false E sr sz) 0 0 (aW false E sz) := by
  refine r_entry (QV false E sr) hj (by decide) [.ref (ea E 0), .int a0, .int a1] (Nat.le_of_ble_eq_true rfl) (fun p e s m args below meth c C => ?_)
  intro H locs ls hP hS hl
  have hl : lv_has ls 4 [(0, .ref (ea E 0)), (1, .int a0), (2, .int a1)] := hl
  obtain ⟨hx, hb, hr, hml, hown, hts, hlocks, hK, hX, hj⟩ := id C
  unfold fX11_shakes at hf
  refine lv_sipush (v := 144) hx hb dX11_shakes_0 (by decide) ?_
  refine lv_iload_n hx hb dX11_shakes_3 rfl (lv_at hl 1 rfl) ?_
  refine lv_imul hx hb dX11_shakes_4 ?_
  refine lv_istore_n (lv' := [(3, .int (144 * a0)), (0, .ref (ea E 0)), (1, .int a0), (2, .int a1)]) hx hb dX11_shakes_5 rfl hl (by decide) rfl (fun ls hl => ?_)
  exact b_fX11_shakes_6 C FU σ a0 a1 (144 * a0) hf H locs ls hP hS (lv_sub hl [1, 2, 3, 0] rfl)
def fX11_shipWater_317 (rec260 : St → Int32 → Int32 → Int32 → Option St) (σ : St) (x2 : Int32) (x3 : Int32) (x4 : Int32) (y0 : Int32) (y1 : Int32) : Option St :=
(wrK 288 σ 8 y1 (vp_nar .boolean y0) fun σ1 =>
rec260 σ1 x2 x3 (x4 + 1))
set_option maxHeartbeats 4000000 in
theorem b_fX11_shipWater_317 {E : Ev} {l : Launch} {p : Program} {e : Env} {s : State} {m : MethodId} {args : Array Value} {below : List Frame} {meth : Method} {c : Code} (C : CX false E RX11 cX11_shipWater 6 none p s m args meth c) {sr : St} (rec260 : St → Int32 → Int32 → Int32 → Option St) (hr260 : ∀ (σ : St) (x2 : Int32) (x3 : Int32) (x4 : Int32), rec260 σ x2 x3 x4 = some sr → GW false l (rmD 4) E 6 p e s m args below meth c (MQ below (QV false E sr s.heap.size) args s 0 0 (aW false E s.heap.size)) σ 260 [(0, .ref (ea E 0)), (2, .int x2), (3, .int x3), (4, .int x4)] []) : ∀ (σ : St) (x2 : Int32) (x3 : Int32) (x4 : Int32) (y0 : Int32) (y1 : Int32), fX11_shipWater_317 rec260 σ x2 x3 x4 y0 y1 = some sr → GW false l (rmD 4) E 6 p e s m args below meth c (MQ below (QV false E sr s.heap.size) args s 0 0 (aW false E s.heap.size)) σ 317 [(0, .ref (ea E 0)), (2, .int x2), (3, .int x3), (4, .int x4)] [.int y0, .int y1, .ref (ea E 8)] := by
  intro σ x2 x3 x4 y0 y1 hf H locs ls hP hS hl
  obtain ⟨hx, hb, hr, hml, hown, hts, hlocks, hK, hX, hj⟩ := id C
  unfold fX11_shipWater_317 at hf
  obtain ⟨h2, σ1, eσ1, hf⟩ := wrK_e hf
  refine r_zast C hP hS aM_8 h2 dX11_shipWater_317 (fun H locs hP hS => ?_)
  rw [← eσ1] at hP
  refine lv_iinc (v := (x4 + 1)) (lv' := [(4, .int (x4 + 1)), (0, .ref (ea E 0)), (2, .int x2), (3, .int x3)]) hx hb dX11_shipWater_318 hl (k := 3) rfl rfl (by decide) rfl (fun ls hl => ?_)
  refine lv_goto (tgt := 260) hx hb dX11_shipWater_321 (by decide) ?_
  exact hr260 σ1 x2 x3 (x4 + 1) hf H locs ls hP hS (lv_sub hl [1, 2, 3, 0] rfl)
def fX11_shipWater_260B (rec260 : St → Int32 → Int32 → Int32 → Option St) (σ : St) (x2 : Int32) (x3 : Int32) (x4 : Int32) : Option St :=
(if (x3 + 144) ≤ x4 then
some σ
else
(wrK 288 σ 8 x4 (vp_nar .boolean 0) fun σ2 =>
(rdK 288 (σ2 5) x4 fun v4 =>
(if v4 = 0 then
rec260 σ2 x2 x3 (x4 + 1)
else
(cv (fX11_takesShip σ2 x4 x2) fun σ8 =>
(cb (fX11_lawOf σ8 2) fun r9 σ11 =>
(if r9 ≤ 0 then
fX11_shipWater_317 rec260 σ11 x2 x3 x4 0 x4
else
fX11_shipWater_317 rec260 σ11 x2 x3 x4 1 x4)))))))
set_option maxHeartbeats 4000000 in
theorem b_fX11_shipWater_260B {E : Ev} {l : Launch} {p : Program} {e : Env} {s : State} {m : MethodId} {args : Array Value} {below : List Frame} {meth : Method} {c : Code} (C : CX false E RX11 cX11_shipWater 6 none p s m args meth c) {sr : St} (rec260 : St → Int32 → Int32 → Int32 → Option St) (hr260 : ∀ (σ : St) (x2 : Int32) (x3 : Int32) (x4 : Int32), rec260 σ x2 x3 x4 = some sr → GW false l (rmD 4) E 6 p e s m args below meth c (MQ below (QV false E sr s.heap.size) args s 0 0 (aW false E s.heap.size)) σ 260 [(0, .ref (ea E 0)), (2, .int x2), (3, .int x3), (4, .int x4)] []) : ∀ (σ : St) (x2 : Int32) (x3 : Int32) (x4 : Int32), fX11_shipWater_260B rec260 σ x2 x3 x4 = some sr → GW false l (rmD 4) E 6 p e s m args below meth c (MQ below (QV false E sr s.heap.size) args s 0 0 (aW false E s.heap.size)) σ 260 [(0, .ref (ea E 0)), (2, .int x2), (3, .int x3), (4, .int x4)] [] := by
  intro σ x2 x3 x4 hf H locs ls hP hS hl
  obtain ⟨hx, hb, hr, hml, hown, hts, hlocks, hK, hX, hj⟩ := id C
  unfold fX11_shipWater_260B at hf
  refine lv_iload hx hb dX11_shipWater_260 (lv_at hl 3 rfl) ?_
  refine lv_iload_n hx hb dX11_shipWater_262 rfl (lv_at hl 2 rfl) ?_
  refine lv_sipush (v := 144) hx hb dX11_shipWater_263 (by decide) ?_
  refine lv_iadd hx hb dX11_shipWater_266 ?_
  refine lv_icmp_ge (tgt := 324) hx hb dX11_shipWater_267 (by decide) (fun c1 => ?_) (fun c1 => ?_)
  · replace hf := it_t c1 hf
    cases hf
    exact r_vret C hP hS dX11_shipWater_324
  · replace hf := it_f c1 hf
    refine lv_aload_n hx hb dX11_shipWater_270 rfl (lv_at hl 0 rfl) ?_
    refine r_get (k := 10) (v := .ref (ea E 8)) C hP oM_0 rfl iX11 (by decide) wm_t1027 rfl rfl dX11_shipWater_271 ?_
    refine lv_iload hx hb dX11_shipWater_274 (lv_at hl 3 rfl) ?_
    refine lv_iconst (v := 0) hx hb dX11_shipWater_276 (by decide) ?_
    obtain ⟨h3, σ2, eσ2, hf⟩ := wrK_e hf
    refine r_zast C hP hS aM_8 h3 dX11_shipWater_277 (fun H locs hP hS => ?_)
    rw [← eσ2] at hP
    refine lv_aload_n hx hb dX11_shipWater_278 rfl (lv_at hl 0 rfl) ?_
    refine r_get (k := 7) (v := .ref (ea E 5)) C hP oM_0 rfl iX11 (by decide) wm_t1024 rfl rfl dX11_shipWater_279 ?_
    refine lv_iload hx hb dX11_shipWater_282 (lv_at hl 3 rfl) ?_
    have h5 := (rdK_e hf).1
    refine r_ald C hP aM_5 h5 dX11_shipWater_284 ?_
    refine lv_topi (fun v4 ev4 => ?_)
    replace hf := rdK_n ev4 hf
    refine lv_if_ne (tgt := 291) hx hb dX11_shipWater_285 (by decide) (fun c6 => ?_) (fun c6 => ?_)
    · replace hf := it_f c6 hf
      refine lv_aload_n hx hb dX11_shipWater_291 rfl (lv_at hl 0 rfl) ?_
      refine lv_iload hx hb dX11_shipWater_292 (lv_at hl 3 rfl) ?_
      refine lv_iload_n hx hb dX11_shipWater_294 rfl (lv_at hl 1 rfl) ?_
      obtain ⟨σ8, hc7, hf⟩ := cv_e hf
      refine r_cVv (n := 2) (As := [.int x4, .int x2]) (rest := []) C (c_fX11_takesShip hj σ2 H.size x4 x2 hc7) oM_0 rfl gv_RX11_297 (by decide +kernel) (rmD_le (by decide) (by decide)) rfl rfl (Nat.le_of_ble_eq_true rfl) dX11_shipWater_295 hP hS hl.1 (fun H locs hP hS => ?_)
      refine lv_aload_n hx hb dX11_shipWater_298 rfl (lv_at hl 0 rfl) ?_
      refine r_get (k := 10) (v := .ref (ea E 8)) C hP oM_0 rfl iX11 (by decide) wm_t1027 rfl rfl dX11_shipWater_299 ?_
      refine lv_iload hx hb dX11_shipWater_302 (lv_at hl 3 rfl) ?_
      refine lv_aload_n hx hb dX11_shipWater_304 rfl (lv_at hl 0 rfl) ?_
      refine lv_iconst (v := 2) hx hb dX11_shipWater_305 (by decide) ?_
      obtain ⟨r9, σ11, hc10, hf⟩ := cb_e hf
      refine r_cVi (n := 1) (As := [.int 2]) (rest := [.int x4, .ref (ea E 8)]) C (c_fX11_lawOf hj σ8 H.size 2 hc10) oM_0 rfl gv_RX11_300 (by decide +kernel) (rmD_le (by decide) (by decide)) rfl rfl (Nat.le_of_ble_eq_true rfl) dX11_shipWater_306 hP hS hl.1 (fun H locs hP hS => ?_)
      refine lv_if_le (tgt := 316) hx hb dX11_shipWater_309 (by decide) (fun c12 => ?_) (fun c12 => ?_)
      · replace hf := it_t c12 hf
        refine lv_iconst (v := 0) hx hb dX11_shipWater_316 (by decide) ?_
        exact b_fX11_shipWater_317 C rec260 hr260 σ11 x2 x3 x4 0 x4 hf H locs ls hP hS (lv_sub hl [0, 1, 2, 3] rfl)
      · replace hf := it_f c12 hf
        refine lv_iconst (v := 1) hx hb dX11_shipWater_312 (by decide) ?_
        refine lv_goto (tgt := 317) hx hb dX11_shipWater_313 (by decide) ?_
        exact b_fX11_shipWater_317 C rec260 hr260 σ11 x2 x3 x4 1 x4 hf H locs ls hP hS (lv_sub hl [0, 1, 2, 3] rfl)
    · replace hf := it_t c6 hf
      refine lv_goto (tgt := 318) hx hb dX11_shipWater_288 (by decide) ?_
      refine lv_iinc (v := (x4 + 1)) (lv' := [(4, .int (x4 + 1)), (0, .ref (ea E 0)), (2, .int x2), (3, .int x3)]) hx hb dX11_shipWater_318 hl (k := 3) rfl rfl (by decide) rfl (fun ls hl => ?_)
      refine lv_goto (tgt := 260) hx hb dX11_shipWater_321 (by decide) ?_
      exact hr260 σ2 x2 x3 (x4 + 1) hf H locs ls hP hS (lv_sub hl [1, 2, 3, 0] rfl)
def fX11_shipWater_260 : Nat → St → Int32 → Int32 → Int32 → Option St
  | 0 => fun _ _ _ _ => none
  | n + 1 => fun σ x2 x3 x4 => fX11_shipWater_260B (fX11_shipWater_260 n) σ x2 x3 x4
theorem b_fX11_shipWater_260 {E : Ev} {l : Launch} {p : Program} {e : Env} {s : State} {m : MethodId} {args : Array Value} {below : List Frame} {meth : Method} {c : Code} (C : CX false E RX11 cX11_shipWater 6 none p s m args meth c) {sr : St} : ∀ (n : Nat) (σ : St) (x2 : Int32) (x3 : Int32) (x4 : Int32), fX11_shipWater_260 n σ x2 x3 x4 = some sr → GW false l (rmD 4) E 6 p e s m args below meth c (MQ below (QV false E sr s.heap.size) args s 0 0 (aW false E s.heap.size)) σ 260 [(0, .ref (ea E 0)), (2, .int x2), (3, .int x3), (4, .int x4)] [] := by
  intro n
  induction n with
  | zero => intro σ x2 x3 x4 hf; have hf : (none : Option _) = some _ := hf; cases hf
  | succ n ih => intro σ x2 x3 x4 hf; exact b_fX11_shipWater_260B C (fX11_shipWater_260 n) ih σ x2 x3 x4 hf
def fX11_shipWater_154B (rec154 : St → Int32 → Int32 → Int32 → Int32 → Option St) (σ : St) (x1 : Int32) (x2 : Int32) (x3 : Int32) (x4 : Int32) : Option St :=
(if 144 ≤ x4 then
fX11_shipWater_260 FU σ x2 x3 x3
else
(if (x4 - x4 / 6 * 6) = 5 then
rec154 σ x1 x2 x3 (x4 + 1)
else
(rdK 288 (σ 6) (x3 + x4) fun v3 =>
(rdK 256 (σ 26) (x4 + 1) fun v5 =>
(rdK 288 (σ 6) (x3 + x4) fun v7 =>
(rdK 256 (σ 26) (x4 + 1) fun v9 =>
(wrK 288 σ 6 (x3 + x4) (fX11_more v7 v9) fun σ11 =>
(rdK 2 (σ11 9) x1 fun v13 =>
(rdK 288 (σ11 6) (x3 + x4) fun v15 =>
(wrK 2 σ11 9 x1 ((v13 + (v3 + v5)) - v15) fun σ17 =>
rec154 σ17 x1 x2 x3 (x4 + 1)))))))))))
set_option maxHeartbeats 4000000 in
theorem b_fX11_shipWater_154B {E : Ev} {l : Launch} {p : Program} {e : Env} {s : State} {m : MethodId} {args : Array Value} {below : List Frame} {meth : Method} {c : Code} (C : CX false E RX11 cX11_shipWater 6 none p s m args meth c) {sr : St} (rec154 : St → Int32 → Int32 → Int32 → Int32 → Option St) (hr154 : ∀ (σ : St) (x1 : Int32) (x2 : Int32) (x3 : Int32) (x4 : Int32), rec154 σ x1 x2 x3 x4 = some sr → GW false l (rmD 4) E 6 p e s m args below meth c (MQ below (QV false E sr s.heap.size) args s 0 0 (aW false E s.heap.size)) σ 154 [(0, .ref (ea E 0)), (1, .int x1), (2, .int x2), (3, .int x3), (4, .int x4)] []) : ∀ (σ : St) (x1 : Int32) (x2 : Int32) (x3 : Int32) (x4 : Int32), fX11_shipWater_154B rec154 σ x1 x2 x3 x4 = some sr → GW false l (rmD 4) E 6 p e s m args below meth c (MQ below (QV false E sr s.heap.size) args s 0 0 (aW false E s.heap.size)) σ 154 [(0, .ref (ea E 0)), (1, .int x1), (2, .int x2), (3, .int x3), (4, .int x4)] [] := by
  intro σ x1 x2 x3 x4 hf H locs ls hP hS hl
  obtain ⟨hx, hb, hr, hml, hown, hts, hlocks, hK, hX, hj⟩ := id C
  unfold fX11_shipWater_154B at hf
  refine lv_iload hx hb dX11_shipWater_154 (lv_at hl 4 rfl) ?_
  refine lv_sipush (v := 144) hx hb dX11_shipWater_156 (by decide) ?_
  refine lv_icmp_ge (tgt := 257) hx hb dX11_shipWater_159 (by decide) (fun c1 => ?_) (fun c1 => ?_)
  · replace hf := it_t c1 hf
    refine lv_iload_n hx hb dX11_shipWater_257 rfl (lv_at hl 3 rfl) ?_
    refine lv_istore (lv' := [(4, .int x3), (0, .ref (ea E 0)), (1, .int x1), (2, .int x2), (3, .int x3)]) hx hb dX11_shipWater_258 hl (by decide) rfl (fun ls hl => ?_)
    exact b_fX11_shipWater_260 C FU σ x2 x3 x3 hf H locs ls hP hS (lv_sub hl [1, 3, 4, 0] rfl)
  · replace hf := it_f c1 hf
    refine lv_iload hx hb dX11_shipWater_162 (lv_at hl 4 rfl) ?_
    refine lv_bipush (v := 6) hx hb dX11_shipWater_164 (by decide) ?_
    refine lv_irem hx hb dX11_shipWater_166 (by decide) ?_
    refine lv_iconst (v := 5) hx hb dX11_shipWater_167 (by decide) ?_
    refine lv_icmp_ne (tgt := 174) hx hb dX11_shipWater_168 (by decide) (fun c2 => ?_) (fun c2 => ?_)
    · replace hf := it_f c2 hf
      refine lv_aload_n hx hb dX11_shipWater_174 rfl (lv_at hl 0 rfl) ?_
      refine r_get (k := 8) (v := .ref (ea E 6)) C hP oM_0 rfl iX11 (by decide) wm_t1025 rfl rfl dX11_shipWater_175 ?_
      refine lv_iload_n hx hb dX11_shipWater_178 rfl (lv_at hl 3 rfl) ?_
      refine lv_iload hx hb dX11_shipWater_179 (lv_at hl 4 rfl) ?_
      refine lv_iadd hx hb dX11_shipWater_181 ?_
      have h4 := (rdK_e hf).1
      refine r_ald C hP aM_6 h4 dX11_shipWater_182 ?_
      refine lv_topi (fun v3 ev3 => ?_)
      replace hf := rdK_n ev3 hf
      refine lv_aload_n hx hb dX11_shipWater_183 rfl (lv_at hl 0 rfl) ?_
      refine r_get (k := 43) (v := .ref (ea E 26)) C hP oM_0 rfl iX11 (by decide) wm_t1060 rfl rfl dX11_shipWater_184 ?_
      refine lv_iload hx hb dX11_shipWater_187 (lv_at hl 4 rfl) ?_
      refine lv_iconst (v := 1) hx hb dX11_shipWater_189 (by decide) ?_
      refine lv_iadd hx hb dX11_shipWater_190 ?_
      have h6 := (rdK_e hf).1
      refine r_ald C hP aM_26 h6 dX11_shipWater_191 ?_
      refine lv_topi (fun v5 ev5 => ?_)
      replace hf := rdK_n ev5 hf
      refine lv_iadd hx hb dX11_shipWater_192 ?_
      refine lv_istore (lv' := [(5, .int (v3 + v5)), (0, .ref (ea E 0)), (1, .int x1), (2, .int x2), (3, .int x3), (4, .int x4)]) hx hb dX11_shipWater_193 hl (by decide) rfl (fun ls hl => ?_)
      refine lv_aload_n hx hb dX11_shipWater_195 rfl (lv_at hl 1 rfl) ?_
      refine r_get (k := 8) (v := .ref (ea E 6)) C hP oM_0 rfl iX11 (by decide) wm_t1025 rfl rfl dX11_shipWater_196 ?_
      refine lv_iload_n hx hb dX11_shipWater_199 rfl (lv_at hl 4 rfl) ?_
      refine lv_iload hx hb dX11_shipWater_200 (lv_at hl 5 rfl) ?_
      refine lv_iadd hx hb dX11_shipWater_202 ?_
      refine lv_aload_n hx hb dX11_shipWater_203 rfl (lv_at hl 1 rfl) ?_
      refine lv_aload_n hx hb dX11_shipWater_204 rfl (lv_at hl 1 rfl) ?_
      refine r_get (k := 8) (v := .ref (ea E 6)) C hP oM_0 rfl iX11 (by decide) wm_t1025 rfl rfl dX11_shipWater_205 ?_
      refine lv_iload_n hx hb dX11_shipWater_208 rfl (lv_at hl 4 rfl) ?_
      refine lv_iload hx hb dX11_shipWater_209 (lv_at hl 5 rfl) ?_
      refine lv_iadd hx hb dX11_shipWater_211 ?_
      have h8 := (rdK_e hf).1
      refine r_ald C hP aM_6 h8 dX11_shipWater_212 ?_
      refine lv_topi (fun v7 ev7 => ?_)
      replace hf := rdK_n ev7 hf
      refine lv_aload_n hx hb dX11_shipWater_213 rfl (lv_at hl 1 rfl) ?_
      refine r_get (k := 43) (v := .ref (ea E 26)) C hP oM_0 rfl iX11 (by decide) wm_t1060 rfl rfl dX11_shipWater_214 ?_
      refine lv_iload hx hb dX11_shipWater_217 (lv_at hl 5 rfl) ?_
      refine lv_iconst (v := 1) hx hb dX11_shipWater_219 (by decide) ?_
      refine lv_iadd hx hb dX11_shipWater_220 ?_
      have h10 := (rdK_e hf).1
      refine r_ald C hP aM_26 h10 dX11_shipWater_221 ?_
      refine lv_topi (fun v9 ev9 => ?_)
      replace hf := rdK_n ev9 hf
      refine r_cVi (n := 2) (As := [.int v7, .int v9]) (rest := [.int (x3 + x4), .ref (ea E 6)]) C (c_fX11_more hj σ H.size v7 v9) oM_0 rfl gv_RX11_303 (by decide +kernel) (rmD_le (by decide) (by decide)) rfl rfl (Nat.le_of_ble_eq_true rfl) dX11_shipWater_222 hP hS hl.1 (fun H locs hP hS => ?_)
      obtain ⟨h12, σ11, eσ11, hf⟩ := wrK_e hf
      refine r_ast C hP hS aM_6 h12 dX11_shipWater_225 (fun H locs hP hS => ?_)
      rw [← eσ11] at hP
      refine lv_aload_n hx hb dX11_shipWater_226 rfl (lv_at hl 1 rfl) ?_
      refine r_get (k := 12) (v := .ref (ea E 9)) C hP oM_0 rfl iX11 (by decide) wm_t1029 rfl rfl dX11_shipWater_227 ?_
      refine lv_iload_n hx hb dX11_shipWater_230 rfl (lv_at hl 2 rfl) ?_
      refine lv_aload_n hx hb dX11_shipWater_231 rfl (lv_at hl 1 rfl) ?_
      refine r_get (k := 12) (v := .ref (ea E 9)) C hP oM_0 rfl iX11 (by decide) wm_t1029 rfl rfl dX11_shipWater_232 ?_
      refine lv_iload_n hx hb dX11_shipWater_235 rfl (lv_at hl 2 rfl) ?_
      have h14 := (rdK_e hf).1
      refine r_ald C hP aM_9 h14 dX11_shipWater_236 ?_
      refine lv_topi (fun v13 ev13 => ?_)
      replace hf := rdK_n ev13 hf
      refine lv_iload hx hb dX11_shipWater_237 (lv_at hl 0 rfl) ?_
      refine lv_iadd hx hb dX11_shipWater_239 ?_
      refine lv_aload_n hx hb dX11_shipWater_240 rfl (lv_at hl 1 rfl) ?_
      refine r_get (k := 8) (v := .ref (ea E 6)) C hP oM_0 rfl iX11 (by decide) wm_t1025 rfl rfl dX11_shipWater_241 ?_
      refine lv_iload_n hx hb dX11_shipWater_244 rfl (lv_at hl 4 rfl) ?_
      refine lv_iload hx hb dX11_shipWater_245 (lv_at hl 5 rfl) ?_
      refine lv_iadd hx hb dX11_shipWater_247 ?_
      have h16 := (rdK_e hf).1
      refine r_ald C hP aM_6 h16 dX11_shipWater_248 ?_
      refine lv_topi (fun v15 ev15 => ?_)
      replace hf := rdK_n ev15 hf
      refine lv_isub hx hb dX11_shipWater_249 ?_
      obtain ⟨h18, σ17, eσ17, hf⟩ := wrK_e hf
      refine r_ast C hP hS aM_9 h18 dX11_shipWater_250 (fun H locs hP hS => ?_)
      rw [← eσ17] at hP
      refine lv_iinc (v := (x4 + 1)) (lv' := [(4, .int (x4 + 1)), (5, .int (v3 + v5)), (0, .ref (ea E 0)), (1, .int x1), (2, .int x2), (3, .int x3)]) hx hb dX11_shipWater_251 hl (k := 5) rfl rfl (by decide) rfl (fun ls hl => ?_)
      refine lv_goto (tgt := 154) hx hb dX11_shipWater_254 (by decide) ?_
      exact hr154 σ17 x1 x2 x3 (x4 + 1) hf H locs ls hP hS (lv_sub hl [2, 3, 4, 5, 0] rfl)
    · replace hf := it_t c2 hf
      refine lv_goto (tgt := 251) hx hb dX11_shipWater_171 (by decide) ?_
      refine lv_iinc (v := (x4 + 1)) (lv' := [(4, .int (x4 + 1)), (0, .ref (ea E 0)), (1, .int x1), (2, .int x2), (3, .int x3)]) hx hb dX11_shipWater_251 hl (k := 4) rfl rfl (by decide) rfl (fun ls hl => ?_)
      refine lv_goto (tgt := 154) hx hb dX11_shipWater_254 (by decide) ?_
      exact hr154 σ x1 x2 x3 (x4 + 1) hf H locs ls hP hS (lv_sub hl [1, 2, 3, 4, 0] rfl)
def fX11_shipWater_154 : Nat → St → Int32 → Int32 → Int32 → Int32 → Option St
  | 0 => fun _ _ _ _ _ => none
  | n + 1 => fun σ x1 x2 x3 x4 => fX11_shipWater_154B (fX11_shipWater_154 n) σ x1 x2 x3 x4
theorem b_fX11_shipWater_154 {E : Ev} {l : Launch} {p : Program} {e : Env} {s : State} {m : MethodId} {args : Array Value} {below : List Frame} {meth : Method} {c : Code} (C : CX false E RX11 cX11_shipWater 6 none p s m args meth c) {sr : St} : ∀ (n : Nat) (σ : St) (x1 : Int32) (x2 : Int32) (x3 : Int32) (x4 : Int32), fX11_shipWater_154 n σ x1 x2 x3 x4 = some sr → GW false l (rmD 4) E 6 p e s m args below meth c (MQ below (QV false E sr s.heap.size) args s 0 0 (aW false E s.heap.size)) σ 154 [(0, .ref (ea E 0)), (1, .int x1), (2, .int x2), (3, .int x3), (4, .int x4)] [] := by
  intro n
  induction n with
  | zero => intro σ x1 x2 x3 x4 hf; have hf : (none : Option _) = some _ := hf; cases hf
  | succ n ih => intro σ x1 x2 x3 x4 hf; exact b_fX11_shipWater_154B C (fX11_shipWater_154 n) ih σ x1 x2 x3 x4 hf
def fX11_shipWater_83B (rec83 : St → Int32 → Int32 → Int32 → Int32 → Option St) (σ : St) (x1 : Int32) (x2 : Int32) (x3 : Int32) (x4 : Int32) : Option St :=
(if 144 ≤ x4 then
fX11_shipWater_154 FU σ x1 x2 x3 0
else
(rdK 288 (σ 6) (x3 + x4) fun v2 =>
(rdK 256 (σ 26) x4 fun v4 =>
(wrK 288 σ 6 (x3 + x4) (v2 - v4) fun σ6 =>
(if (x4 - x4 / 6 * 6) = 0 then
(rdK 2 (σ6 9) x1 fun v9 =>
(rdK 256 (σ6 26) x4 fun v11 =>
(wrK 2 σ6 9 x1 (v9 + v11) fun σ13 =>
rec83 σ13 x1 x2 x3 (x4 + 1))))
else
rec83 σ6 x1 x2 x3 (x4 + 1))))))
set_option maxHeartbeats 4000000 in
theorem b_fX11_shipWater_83B {E : Ev} {l : Launch} {p : Program} {e : Env} {s : State} {m : MethodId} {args : Array Value} {below : List Frame} {meth : Method} {c : Code} (C : CX false E RX11 cX11_shipWater 6 none p s m args meth c) {sr : St} (rec83 : St → Int32 → Int32 → Int32 → Int32 → Option St) (hr83 : ∀ (σ : St) (x1 : Int32) (x2 : Int32) (x3 : Int32) (x4 : Int32), rec83 σ x1 x2 x3 x4 = some sr → GW false l (rmD 4) E 6 p e s m args below meth c (MQ below (QV false E sr s.heap.size) args s 0 0 (aW false E s.heap.size)) σ 83 [(0, .ref (ea E 0)), (1, .int x1), (2, .int x2), (3, .int x3), (4, .int x4)] []) : ∀ (σ : St) (x1 : Int32) (x2 : Int32) (x3 : Int32) (x4 : Int32), fX11_shipWater_83B rec83 σ x1 x2 x3 x4 = some sr → GW false l (rmD 4) E 6 p e s m args below meth c (MQ below (QV false E sr s.heap.size) args s 0 0 (aW false E s.heap.size)) σ 83 [(0, .ref (ea E 0)), (1, .int x1), (2, .int x2), (3, .int x3), (4, .int x4)] [] := by
  intro σ x1 x2 x3 x4 hf H locs ls hP hS hl
  obtain ⟨hx, hb, hr, hml, hown, hts, hlocks, hK, hX, hj⟩ := id C
  unfold fX11_shipWater_83B at hf
  refine lv_iload hx hb dX11_shipWater_83 (lv_at hl 4 rfl) ?_
  refine lv_sipush (v := 144) hx hb dX11_shipWater_85 (by decide) ?_
  refine lv_icmp_ge (tgt := 151) hx hb dX11_shipWater_88 (by decide) (fun c1 => ?_) (fun c1 => ?_)
  · replace hf := it_t c1 hf
    refine lv_iconst (v := 0) hx hb dX11_shipWater_151 (by decide) ?_
    refine lv_istore (lv' := [(4, .int 0), (0, .ref (ea E 0)), (1, .int x1), (2, .int x2), (3, .int x3)]) hx hb dX11_shipWater_152 hl (by decide) rfl (fun ls hl => ?_)
    exact b_fX11_shipWater_154 C FU σ x1 x2 x3 0 hf H locs ls hP hS (lv_sub hl [1, 2, 3, 4, 0] rfl)
  · replace hf := it_f c1 hf
    refine lv_aload_n hx hb dX11_shipWater_91 rfl (lv_at hl 0 rfl) ?_
    refine r_get (k := 8) (v := .ref (ea E 6)) C hP oM_0 rfl iX11 (by decide) wm_t1025 rfl rfl dX11_shipWater_92 ?_
    refine lv_iload_n hx hb dX11_shipWater_95 rfl (lv_at hl 3 rfl) ?_
    refine lv_iload hx hb dX11_shipWater_96 (lv_at hl 4 rfl) ?_
    refine lv_iadd hx hb dX11_shipWater_98 ?_
    refine lv_aload_n hx hb dX11_shipWater_99 rfl (lv_at hl 0 rfl) ?_
    refine r_get (k := 8) (v := .ref (ea E 6)) C hP oM_0 rfl iX11 (by decide) wm_t1025 rfl rfl dX11_shipWater_100 ?_
    refine lv_iload_n hx hb dX11_shipWater_103 rfl (lv_at hl 3 rfl) ?_
    refine lv_iload hx hb dX11_shipWater_104 (lv_at hl 4 rfl) ?_
    refine lv_iadd hx hb dX11_shipWater_106 ?_
    have h3 := (rdK_e hf).1
    refine r_ald C hP aM_6 h3 dX11_shipWater_107 ?_
    refine lv_topi (fun v2 ev2 => ?_)
    replace hf := rdK_n ev2 hf
    refine lv_aload_n hx hb dX11_shipWater_108 rfl (lv_at hl 0 rfl) ?_
    refine r_get (k := 43) (v := .ref (ea E 26)) C hP oM_0 rfl iX11 (by decide) wm_t1060 rfl rfl dX11_shipWater_109 ?_
    refine lv_iload hx hb dX11_shipWater_112 (lv_at hl 4 rfl) ?_
    have h5 := (rdK_e hf).1
    refine r_ald C hP aM_26 h5 dX11_shipWater_114 ?_
    refine lv_topi (fun v4 ev4 => ?_)
    replace hf := rdK_n ev4 hf
    refine lv_isub hx hb dX11_shipWater_115 ?_
    obtain ⟨h7, σ6, eσ6, hf⟩ := wrK_e hf
    refine r_ast C hP hS aM_6 h7 dX11_shipWater_116 (fun H locs hP hS => ?_)
    rw [← eσ6] at hP
    refine lv_iload hx hb dX11_shipWater_117 (lv_at hl 4 rfl) ?_
    refine lv_bipush (v := 6) hx hb dX11_shipWater_119 (by decide) ?_
    refine lv_irem hx hb dX11_shipWater_121 (by decide) ?_
    refine lv_if_ne (tgt := 145) hx hb dX11_shipWater_122 (by decide) (fun c8 => ?_) (fun c8 => ?_)
    · replace hf := it_f c8 hf
      refine lv_iinc (v := (x4 + 1)) (lv' := [(4, .int (x4 + 1)), (0, .ref (ea E 0)), (1, .int x1), (2, .int x2), (3, .int x3)]) hx hb dX11_shipWater_145 hl (k := 4) rfl rfl (by decide) rfl (fun ls hl => ?_)
      refine lv_goto (tgt := 83) hx hb dX11_shipWater_148 (by decide) ?_
      exact hr83 σ6 x1 x2 x3 (x4 + 1) hf H locs ls hP hS (lv_sub hl [1, 2, 3, 4, 0] rfl)
    · replace hf := it_t c8 hf
      refine lv_aload_n hx hb dX11_shipWater_125 rfl (lv_at hl 0 rfl) ?_
      refine r_get (k := 12) (v := .ref (ea E 9)) C hP oM_0 rfl iX11 (by decide) wm_t1029 rfl rfl dX11_shipWater_126 ?_
      refine lv_iload_n hx hb dX11_shipWater_129 rfl (lv_at hl 1 rfl) ?_
      refine lv_aload_n hx hb dX11_shipWater_130 rfl (lv_at hl 0 rfl) ?_
      refine r_get (k := 12) (v := .ref (ea E 9)) C hP oM_0 rfl iX11 (by decide) wm_t1029 rfl rfl dX11_shipWater_131 ?_
      refine lv_iload_n hx hb dX11_shipWater_134 rfl (lv_at hl 1 rfl) ?_
      have h10 := (rdK_e hf).1
      refine r_ald C hP aM_9 h10 dX11_shipWater_135 ?_
      refine lv_topi (fun v9 ev9 => ?_)
      replace hf := rdK_n ev9 hf
      refine lv_aload_n hx hb dX11_shipWater_136 rfl (lv_at hl 0 rfl) ?_
      refine r_get (k := 43) (v := .ref (ea E 26)) C hP oM_0 rfl iX11 (by decide) wm_t1060 rfl rfl dX11_shipWater_137 ?_
      refine lv_iload hx hb dX11_shipWater_140 (lv_at hl 4 rfl) ?_
      have h12 := (rdK_e hf).1
      refine r_ald C hP aM_26 h12 dX11_shipWater_142 ?_
      refine lv_topi (fun v11 ev11 => ?_)
      replace hf := rdK_n ev11 hf
      refine lv_iadd hx hb dX11_shipWater_143 ?_
      obtain ⟨h14, σ13, eσ13, hf⟩ := wrK_e hf
      refine r_ast C hP hS aM_9 h14 dX11_shipWater_144 (fun H locs hP hS => ?_)
      rw [← eσ13] at hP
      refine lv_iinc (v := (x4 + 1)) (lv' := [(4, .int (x4 + 1)), (0, .ref (ea E 0)), (1, .int x1), (2, .int x2), (3, .int x3)]) hx hb dX11_shipWater_145 hl (k := 4) rfl rfl (by decide) rfl (fun ls hl => ?_)
      refine lv_goto (tgt := 83) hx hb dX11_shipWater_148 (by decide) ?_
      exact hr83 σ13 x1 x2 x3 (x4 + 1) hf H locs ls hP hS (lv_sub hl [1, 2, 3, 4, 0] rfl)
def fX11_shipWater_83 : Nat → St → Int32 → Int32 → Int32 → Int32 → Option St
  | 0 => fun _ _ _ _ _ => none
  | n + 1 => fun σ x1 x2 x3 x4 => fX11_shipWater_83B (fX11_shipWater_83 n) σ x1 x2 x3 x4
theorem b_fX11_shipWater_83 {E : Ev} {l : Launch} {p : Program} {e : Env} {s : State} {m : MethodId} {args : Array Value} {below : List Frame} {meth : Method} {c : Code} (C : CX false E RX11 cX11_shipWater 6 none p s m args meth c) {sr : St} : ∀ (n : Nat) (σ : St) (x1 : Int32) (x2 : Int32) (x3 : Int32) (x4 : Int32), fX11_shipWater_83 n σ x1 x2 x3 x4 = some sr → GW false l (rmD 4) E 6 p e s m args below meth c (MQ below (QV false E sr s.heap.size) args s 0 0 (aW false E s.heap.size)) σ 83 [(0, .ref (ea E 0)), (1, .int x1), (2, .int x2), (3, .int x3), (4, .int x4)] [] := by
  intro n
  induction n with
  | zero => intro σ x1 x2 x3 x4 hf; have hf : (none : Option _) = some _ := hf; cases hf
  | succ n ih => intro σ x1 x2 x3 x4 hf; exact b_fX11_shipWater_83B C (fX11_shipWater_83 n) ih σ x1 x2 x3 x4 hf
def fX11_shipWater_9B (rec9 : St → Int32 → Int32 → Int32 → Int32 → Option St) (σ : St) (x1 : Int32) (x2 : Int32) (x3 : Int32) (x4 : Int32) : Option St :=
(if 144 ≤ x4 then
fX11_shipWater_83 FU σ x1 x2 x3 0
else
(wrK 256 σ 26 x4 0 fun σ2 =>
(rdK 288 (σ2 5) (x3 + x4) fun v4 =>
(if v4 = 0 then
rec9 σ2 x1 x2 x3 (x4 + 1)
else
(cv (fX11_takesShip σ2 (x3 + x4) x2) fun σ8 =>
(cb (fX11_lawOf σ8 0) fun r9 σ11 =>
(rdK 288 (σ11 6) (x3 + x4) fun v12 =>
(wrK 256 σ11 26 x4 (fX11_cut r9 v12) fun σ14 =>
rec9 σ14 x1 x2 x3 (x4 + 1)))))))))
set_option maxHeartbeats 4000000 in
theorem b_fX11_shipWater_9B {E : Ev} {l : Launch} {p : Program} {e : Env} {s : State} {m : MethodId} {args : Array Value} {below : List Frame} {meth : Method} {c : Code} (C : CX false E RX11 cX11_shipWater 6 none p s m args meth c) {sr : St} (rec9 : St → Int32 → Int32 → Int32 → Int32 → Option St) (hr9 : ∀ (σ : St) (x1 : Int32) (x2 : Int32) (x3 : Int32) (x4 : Int32), rec9 σ x1 x2 x3 x4 = some sr → GW false l (rmD 4) E 6 p e s m args below meth c (MQ below (QV false E sr s.heap.size) args s 0 0 (aW false E s.heap.size)) σ 9 [(0, .ref (ea E 0)), (1, .int x1), (2, .int x2), (3, .int x3), (4, .int x4)] []) : ∀ (σ : St) (x1 : Int32) (x2 : Int32) (x3 : Int32) (x4 : Int32), fX11_shipWater_9B rec9 σ x1 x2 x3 x4 = some sr → GW false l (rmD 4) E 6 p e s m args below meth c (MQ below (QV false E sr s.heap.size) args s 0 0 (aW false E s.heap.size)) σ 9 [(0, .ref (ea E 0)), (1, .int x1), (2, .int x2), (3, .int x3), (4, .int x4)] [] := by
  intro σ x1 x2 x3 x4 hf H locs ls hP hS hl
  obtain ⟨hx, hb, hr, hml, hown, hts, hlocks, hK, hX, hj⟩ := id C
  unfold fX11_shipWater_9B at hf
  refine lv_iload hx hb dX11_shipWater_9 (lv_at hl 4 rfl) ?_
  refine lv_sipush (v := 144) hx hb dX11_shipWater_11 (by decide) ?_
  refine lv_icmp_ge (tgt := 80) hx hb dX11_shipWater_14 (by decide) (fun c1 => ?_) (fun c1 => ?_)
  · replace hf := it_t c1 hf
    refine lv_iconst (v := 0) hx hb dX11_shipWater_80 (by decide) ?_
    refine lv_istore (lv' := [(4, .int 0), (0, .ref (ea E 0)), (1, .int x1), (2, .int x2), (3, .int x3)]) hx hb dX11_shipWater_81 hl (by decide) rfl (fun ls hl => ?_)
    exact b_fX11_shipWater_83 C FU σ x1 x2 x3 0 hf H locs ls hP hS (lv_sub hl [1, 2, 3, 4, 0] rfl)
  · replace hf := it_f c1 hf
    refine lv_aload_n hx hb dX11_shipWater_17 rfl (lv_at hl 0 rfl) ?_
    refine r_get (k := 43) (v := .ref (ea E 26)) C hP oM_0 rfl iX11 (by decide) wm_t1060 rfl rfl dX11_shipWater_18 ?_
    refine lv_iload hx hb dX11_shipWater_21 (lv_at hl 4 rfl) ?_
    refine lv_iconst (v := 0) hx hb dX11_shipWater_23 (by decide) ?_
    obtain ⟨h3, σ2, eσ2, hf⟩ := wrK_e hf
    refine r_ast C hP hS aM_26 h3 dX11_shipWater_24 (fun H locs hP hS => ?_)
    rw [← eσ2] at hP
    refine lv_aload_n hx hb dX11_shipWater_25 rfl (lv_at hl 0 rfl) ?_
    refine r_get (k := 7) (v := .ref (ea E 5)) C hP oM_0 rfl iX11 (by decide) wm_t1024 rfl rfl dX11_shipWater_26 ?_
    refine lv_iload_n hx hb dX11_shipWater_29 rfl (lv_at hl 3 rfl) ?_
    refine lv_iload hx hb dX11_shipWater_30 (lv_at hl 4 rfl) ?_
    refine lv_iadd hx hb dX11_shipWater_32 ?_
    have h5 := (rdK_e hf).1
    refine r_ald C hP aM_5 h5 dX11_shipWater_33 ?_
    refine lv_topi (fun v4 ev4 => ?_)
    replace hf := rdK_n ev4 hf
    refine lv_if_ne (tgt := 40) hx hb dX11_shipWater_34 (by decide) (fun c6 => ?_) (fun c6 => ?_)
    · replace hf := it_f c6 hf
      refine lv_aload_n hx hb dX11_shipWater_40 rfl (lv_at hl 0 rfl) ?_
      refine lv_iload_n hx hb dX11_shipWater_41 rfl (lv_at hl 3 rfl) ?_
      refine lv_iload hx hb dX11_shipWater_42 (lv_at hl 4 rfl) ?_
      refine lv_iadd hx hb dX11_shipWater_44 ?_
      refine lv_iload_n hx hb dX11_shipWater_45 rfl (lv_at hl 2 rfl) ?_
      obtain ⟨σ8, hc7, hf⟩ := cv_e hf
      refine r_cVv (n := 2) (As := [.int (x3 + x4), .int x2]) (rest := []) C (c_fX11_takesShip hj σ2 H.size (x3 + x4) x2 hc7) oM_0 rfl gv_RX11_297 (by decide +kernel) (rmD_le (by decide) (by decide)) rfl rfl (Nat.le_of_ble_eq_true rfl) dX11_shipWater_46 hP hS hl.1 (fun H locs hP hS => ?_)
      refine lv_aload_n hx hb dX11_shipWater_49 rfl (lv_at hl 0 rfl) ?_
      refine r_get (k := 43) (v := .ref (ea E 26)) C hP oM_0 rfl iX11 (by decide) wm_t1060 rfl rfl dX11_shipWater_50 ?_
      refine lv_iload hx hb dX11_shipWater_53 (lv_at hl 4 rfl) ?_
      refine lv_aload_n hx hb dX11_shipWater_55 rfl (lv_at hl 0 rfl) ?_
      refine lv_aload_n hx hb dX11_shipWater_56 rfl (lv_at hl 0 rfl) ?_
      refine lv_iconst (v := 0) hx hb dX11_shipWater_57 (by decide) ?_
      obtain ⟨r9, σ11, hc10, hf⟩ := cb_e hf
      refine r_cVi (n := 1) (As := [.int 0]) (rest := [.ref (ea E 0), .int x4, .ref (ea E 26)]) C (c_fX11_lawOf hj σ8 H.size 0 hc10) oM_0 rfl gv_RX11_300 (by decide +kernel) (rmD_le (by decide) (by decide)) rfl rfl (Nat.le_of_ble_eq_true rfl) dX11_shipWater_58 hP hS hl.1 (fun H locs hP hS => ?_)
      refine lv_aload_n hx hb dX11_shipWater_61 rfl (lv_at hl 0 rfl) ?_
      refine r_get (k := 8) (v := .ref (ea E 6)) C hP oM_0 rfl iX11 (by decide) wm_t1025 rfl rfl dX11_shipWater_62 ?_
      refine lv_iload_n hx hb dX11_shipWater_65 rfl (lv_at hl 3 rfl) ?_
      refine lv_iload hx hb dX11_shipWater_66 (lv_at hl 4 rfl) ?_
      refine lv_iadd hx hb dX11_shipWater_68 ?_
      have h13 := (rdK_e hf).1
      refine r_ald C hP aM_6 h13 dX11_shipWater_69 ?_
      refine lv_topi (fun v12 ev12 => ?_)
      replace hf := rdK_n ev12 hf
      refine r_cVi (n := 2) (As := [.int r9, .int v12]) (rest := [.int x4, .ref (ea E 26)]) C (c_fX11_cut hj σ11 H.size r9 v12) oM_0 rfl gv_RX11_309 (by decide +kernel) (rmD_le (by decide) (by decide)) rfl rfl (Nat.le_of_ble_eq_true rfl) dX11_shipWater_70 hP hS hl.1 (fun H locs hP hS => ?_)
      obtain ⟨h15, σ14, eσ14, hf⟩ := wrK_e hf
      refine r_ast C hP hS aM_26 h15 dX11_shipWater_73 (fun H locs hP hS => ?_)
      rw [← eσ14] at hP
      refine lv_iinc (v := (x4 + 1)) (lv' := [(4, .int (x4 + 1)), (0, .ref (ea E 0)), (1, .int x1), (2, .int x2), (3, .int x3)]) hx hb dX11_shipWater_74 hl (k := 4) rfl rfl (by decide) rfl (fun ls hl => ?_)
      refine lv_goto (tgt := 9) hx hb dX11_shipWater_77 (by decide) ?_
      exact hr9 σ14 x1 x2 x3 (x4 + 1) hf H locs ls hP hS (lv_sub hl [1, 2, 3, 4, 0] rfl)
    · replace hf := it_t c6 hf
      refine lv_goto (tgt := 74) hx hb dX11_shipWater_37 (by decide) ?_
      refine lv_iinc (v := (x4 + 1)) (lv' := [(4, .int (x4 + 1)), (0, .ref (ea E 0)), (1, .int x1), (2, .int x2), (3, .int x3)]) hx hb dX11_shipWater_74 hl (k := 4) rfl rfl (by decide) rfl (fun ls hl => ?_)
      refine lv_goto (tgt := 9) hx hb dX11_shipWater_77 (by decide) ?_
      exact hr9 σ2 x1 x2 x3 (x4 + 1) hf H locs ls hP hS (lv_sub hl [1, 2, 3, 4, 0] rfl)
def fX11_shipWater_9 : Nat → St → Int32 → Int32 → Int32 → Int32 → Option St
  | 0 => fun _ _ _ _ _ => none
  | n + 1 => fun σ x1 x2 x3 x4 => fX11_shipWater_9B (fX11_shipWater_9 n) σ x1 x2 x3 x4
theorem b_fX11_shipWater_9 {E : Ev} {l : Launch} {p : Program} {e : Env} {s : State} {m : MethodId} {args : Array Value} {below : List Frame} {meth : Method} {c : Code} (C : CX false E RX11 cX11_shipWater 6 none p s m args meth c) {sr : St} : ∀ (n : Nat) (σ : St) (x1 : Int32) (x2 : Int32) (x3 : Int32) (x4 : Int32), fX11_shipWater_9 n σ x1 x2 x3 x4 = some sr → GW false l (rmD 4) E 6 p e s m args below meth c (MQ below (QV false E sr s.heap.size) args s 0 0 (aW false E s.heap.size)) σ 9 [(0, .ref (ea E 0)), (1, .int x1), (2, .int x2), (3, .int x3), (4, .int x4)] [] := by
  intro n
  induction n with
  | zero => intro σ x1 x2 x3 x4 hf; have hf : (none : Option _) = some _ := hf; cases hf
  | succ n ih => intro σ x1 x2 x3 x4 hf; exact b_fX11_shipWater_9B C (fX11_shipWater_9 n) ih σ x1 x2 x3 x4 hf
def fX11_shipWater (σ : St) (a0 : Int32) (a1 : Int32) : Option St :=
fX11_shipWater_9 FU σ a0 a1 (144 * a0) 0
set_option maxHeartbeats 4000000 in
theorem c_fX11_shipWater {E : Ev} {l : Launch} (hj : jW false E) (σ : St) (sz : Nat) (a0 : Int32) (a1 : Int32) {sr : St} (hf : fX11_shipWater σ a0 a1 = some sr) : Met l yX11_shipWater (Cond.code yX11_shipWater cX11_shipWater 6 none :: gT) (rmD 4) (va_Pc [.ref (ea E 0), .int a0, .int a1] (preW false E σ sz)) (QV false E sr sz) 0 0 (aW false E sz) := by
  refine r_entry (QV false E sr) hj (by decide) [.ref (ea E 0), .int a0, .int a1] (Nat.le_of_ble_eq_true rfl) (fun p e s m args below meth c C => ?_)
  intro H locs ls hP hS hl
  have hl : lv_has ls 6 [(0, .ref (ea E 0)), (1, .int a0), (2, .int a1)] := hl
  obtain ⟨hx, hb, hr, hml, hown, hts, hlocks, hK, hX, hj⟩ := id C
  unfold fX11_shipWater at hf
  refine lv_sipush (v := 144) hx hb dX11_shipWater_0 (by decide) ?_
  refine lv_iload_n hx hb dX11_shipWater_3 rfl (lv_at hl 1 rfl) ?_
  refine lv_imul hx hb dX11_shipWater_4 ?_
  refine lv_istore_n (lv' := [(3, .int (144 * a0)), (0, .ref (ea E 0)), (1, .int a0), (2, .int a1)]) hx hb dX11_shipWater_5 rfl hl (by decide) rfl (fun ls hl => ?_)
  refine lv_iconst (v := 0) hx hb dX11_shipWater_6 (by decide) ?_
  refine lv_istore (lv' := [(4, .int 0), (3, .int (144 * a0)), (0, .ref (ea E 0)), (1, .int a0), (2, .int a1)]) hx hb dX11_shipWater_7 hl (by decide) rfl (fun ls hl => ?_)
  exact b_fX11_shipWater_9 C FU σ a0 a1 (144 * a0) 0 hf H locs ls hP hS (lv_sub hl [2, 3, 4, 1, 0] rfl)
def fX11_columnArm (a0 : Int32) : Int32 :=
((2 * ((a0 / 6) - (a0 / 6) / 6 * 6)) - 5)
set_option maxHeartbeats 4000000 in
theorem c_fX11_columnArm {E : Ev} {l : Launch} (hj : jW false E) (σ : St) (sz : Nat) (a0 : Int32) : Met l yX11_columnArm (Cond.code yX11_columnArm cX11_columnArm 2 (some .int) :: gT) (rmD 1) (va_Pc [.ref (ea E 0), .int a0] (preW false E σ sz)) (QI false E (fX11_columnArm a0) σ sz) 0 0 (aW false E sz) := by
  refine r_entry (QI false E (fX11_columnArm a0) σ) hj (by decide) [.ref (ea E 0), .int a0] (Nat.le_of_ble_eq_true rfl) (fun p e s m args below meth c C => ?_)
  intro H locs ls hP hS hl
  have hl : lv_has ls 2 [(0, .ref (ea E 0)), (1, .int a0)] := hl
  obtain ⟨hx, hb, hr, hml, hown, hts, hlocks, hK, hX, hj⟩ := id C
  generalize hf : fX11_columnArm a0 = rr
  unfold fX11_columnArm at hf
  refine lv_iconst (v := 2) hx hb dX11_columnArm_0 (by decide) ?_
  refine lv_iload_n hx hb dX11_columnArm_1 rfl (lv_at hl 1 rfl) ?_
  refine lv_bipush (v := 6) hx hb dX11_columnArm_2 (by decide) ?_
  refine lv_idiv hx hb dX11_columnArm_4 (by decide) ?_
  refine lv_bipush (v := 6) hx hb dX11_columnArm_5 (by decide) ?_
  refine lv_irem hx hb dX11_columnArm_7 (by decide) ?_
  refine lv_imul hx hb dX11_columnArm_8 ?_
  refine lv_iconst (v := 5) hx hb dX11_columnArm_9 (by decide) ?_
  refine lv_isub hx hb dX11_columnArm_10 ?_
  subst hf
  exact r_iret C hP hS dX11_columnArm_11
