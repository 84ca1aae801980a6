def fX11_mean (σ : St) (a0 : Int32) (a1 : Int32) : Option (Int32 × St) :=
(nmS (st_put σ 0 0 0) fun σ1 =>
(if (fX11_isHour a0) = 0 then
some ((-1), σ1)
else
(if (fX11_isIn a1 0 2) = 0 then
some ((-1), σ1)
else
(cq (fX11_meanOf σ1 a0 1) fun r4 =>
(if a1 = 0 then
some (r4, σ1)
else
(if r4 = (-1) then
some (r4, σ1)
else
(cq (fX11_meanOf σ1 a0 0) fun r8 =>
(if a1 = 1 then
some (r8, σ1)
else
(if (σ1 0 53) = (-1) then
some ((-1), σ1)
else
(if (σ1 0 53) < r4 then
some (0, σ1)
else
(if r8 < (σ1 0 53) then
some (0, σ1)
else
some (1, σ1))))))))))))
set_option maxHeartbeats 4000000 in
theorem c_fX11_mean {E : Ev} {l : Launch} (hj : jW false E) (σ : St) (sz : Nat) (a0 : Int32) (a1 : Int32) {rr : Int32} {sr : St} (hf : fX11_mean σ a0 a1 = some (rr, sr)) : Met l yX11_mean (Cond.code yX11_mean cX11_mean 5 (some .int) :: gT) (rmD 5) (va_Pc [.ref (ea E 0), .int a0, .int a1] (preW false E σ sz)) (QI false E rr sr sz) 0 0 (aW false E sz) := by
  refine r_entry (QI false E rr sr) hj (by decide) [.ref (ea E 0), .int a0, .int a1] (Nat.le_of_ble_eq_true rfl) (fun p e s m args below meth c C => ?_)
  intro H locs ls hP hS hl
  have hl : lv_has ls 5 [(0, .ref (ea E 0)), (1, .int a0), (2, .int a1)] := hl
  obtain ⟨hx, hb, hr, hml, hown, hts, hlocks, hK, hX, hj⟩ := id C
  unfold fX11_mean at hf
  refine lv_aload_n hx hb dX11_mean_0 rfl (lv_at hl 0 rfl) ?_
  refine lv_iconst (v := 0) hx hb dX11_mean_1 (by decide) ?_
  refine r_put (k := 0) (x := 0) C hP hS tyX11 tyX11_ok nmX11 oM_0 rfl iX11 (by decide) wm_t1017 rfl rfl sM_0_0 rfl rfl (Nat.le_of_ble_eq_true rfl) dX11_mean_2 (fun H locs hP hS => ?_)
  obtain ⟨σ1, eσ1, hf⟩ := nmS_e hf
  rw [← eσ1] at hP
  refine lv_aload_n hx hb dX11_mean_5 rfl (lv_at hl 0 rfl) ?_
  refine lv_iload_n hx hb dX11_mean_6 rfl (lv_at hl 1 rfl) ?_
  refine r_cVi (n := 1) (As := [.int a0]) (rest := []) C (c_fX11_isHour hj σ1 H.size a0) oM_0 rfl gv_RX11_371 (by decide +kernel) (rmD_le (by decide) (by decide)) rfl rfl (Nat.le_of_ble_eq_true rfl) dX11_mean_7 hP hS hl.1 (fun H locs hP hS => ?_)
  refine lv_if_eq (tgt := 23) hx hb dX11_mean_10 (by decide) (fun c2 => ?_) (fun c2 => ?_)
  · replace hf := it_t c2 hf
    refine lv_iconst (v := (-1)) hx hb dX11_mean_23 (by decide) ?_
    cases hf
    exact r_iret C hP hS dX11_mean_24
  · replace hf := it_f c2 hf
    refine lv_aload_n hx hb dX11_mean_13 rfl (lv_at hl 0 rfl) ?_
    refine lv_iload_n hx hb dX11_mean_14 rfl (lv_at hl 2 rfl) ?_
    refine lv_iconst (v := 0) hx hb dX11_mean_15 (by decide) ?_
    refine lv_iconst (v := 2) hx hb dX11_mean_16 (by decide) ?_
    refine r_cVi (n := 3) (As := [.int a1, .int 0, .int 2]) (rest := []) C (c_fX11_isIn hj σ1 H.size a1 0 2) oM_0 rfl gv_RX11_144 (by decide +kernel) (rmD_le (by decide) (by decide)) rfl rfl (Nat.le_of_ble_eq_true rfl) dX11_mean_17 hP hS hl.1 (fun H locs hP hS => ?_)
    refine lv_if_ne (tgt := 25) hx hb dX11_mean_20 (by decide) (fun c3 => ?_) (fun c3 => ?_)
    · replace hf := it_f c3 hf
      refine lv_aload_n hx hb dX11_mean_25 rfl (lv_at hl 0 rfl) ?_
      refine lv_iload_n hx hb dX11_mean_26 rfl (lv_at hl 1 rfl) ?_
      refine lv_iconst (v := 1) hx hb dX11_mean_27 (by decide) ?_
      obtain ⟨r4, hc5, hf⟩ := cq_e hf
      refine r_cVi (n := 2) (As := [.int a0, .int 1]) (rest := []) C (c_fX11_meanOf hj σ1 H.size a0 1 hc5) oM_0 rfl gv_RX11_378 (by decide +kernel) (rmD_le (by decide) (by decide)) rfl rfl (Nat.le_of_ble_eq_true rfl) dX11_mean_28 hP hS hl.1 (fun H locs hP hS => ?_)
      refine lv_istore_n (lv' := [(3, .int r4), (0, .ref (ea E 0)), (1, .int a0), (2, .int a1)]) hx hb dX11_mean_31 rfl hl (by decide) rfl (fun ls hl => ?_)
      refine lv_iload_n hx hb dX11_mean_32 rfl (lv_at hl 3 rfl) ?_
      refine lv_if_eq (tgt := 41) hx hb dX11_mean_33 (by decide) (fun c6 => ?_) (fun c6 => ?_)
      · replace hf := it_t c6 hf
        refine lv_iload_n hx hb dX11_mean_41 rfl (lv_at hl 0 rfl) ?_
        cases hf
        exact r_iret C hP hS dX11_mean_42
      · replace hf := it_f c6 hf
        refine lv_iload_n hx hb dX11_mean_36 rfl (lv_at hl 0 rfl) ?_
        refine lv_iconst (v := (-1)) hx hb dX11_mean_37 (by decide) ?_
        refine lv_icmp_ne (tgt := 43) hx hb dX11_mean_38 (by decide) (fun c7 => ?_) (fun c7 => ?_)
        · replace hf := it_f c7 hf
          refine lv_aload_n hx hb dX11_mean_43 rfl (lv_at hl 1 rfl) ?_
          refine lv_iload_n hx hb dX11_mean_44 rfl (lv_at hl 2 rfl) ?_
          refine lv_iconst (v := 0) hx hb dX11_mean_45 (by decide) ?_
          obtain ⟨r8, hc9, hf⟩ := cq_e hf
          refine r_cVi (n := 2) (As := [.int a0, .int 0]) (rest := []) C (c_fX11_meanOf hj σ1 H.size a0 0 hc9) oM_0 rfl gv_RX11_378 (by decide +kernel) (rmD_le (by decide) (by decide)) rfl rfl (Nat.le_of_ble_eq_true rfl) dX11_mean_46 hP hS hl.1 (fun H locs hP hS => ?_)
          refine lv_istore (lv' := [(4, .int r8), (3, .int r4), (0, .ref (ea E 0)), (1, .int a0), (2, .int a1)]) hx hb dX11_mean_49 hl (by decide) rfl (fun ls hl => ?_)
          refine lv_iload_n hx hb dX11_mean_51 rfl (lv_at hl 4 rfl) ?_
          refine lv_iconst (v := 1) hx hb dX11_mean_52 (by decide) ?_
          refine lv_icmp_ne (tgt := 59) hx hb dX11_mean_53 (by decide) (fun c10 => ?_) (fun c10 => ?_)
          · replace hf := it_f c10 hf
            refine lv_aload_n hx hb dX11_mean_59 rfl (lv_at hl 2 rfl) ?_
            refine r_get (k := 53) (v := .int (σ1 0 53)) C hP oM_0 rfl iX11 (by decide) wm_t1070 rfl rfl dX11_mean_60 ?_
            refine lv_iconst (v := (-1)) hx hb dX11_mean_63 (by decide) ?_
            refine lv_icmp_ne (tgt := 71) hx hb dX11_mean_64 (by decide) (fun c11 => ?_) (fun c11 => ?_)
            · replace hf := it_f c11 hf
              refine lv_aload_n hx hb dX11_mean_71 rfl (lv_at hl 2 rfl) ?_
              refine r_get (k := 53) (v := .int (σ1 0 53)) C hP oM_0 rfl iX11 (by decide) wm_t1070 rfl rfl dX11_mean_72 ?_
              refine lv_iload_n hx hb dX11_mean_75 rfl (lv_at hl 1 rfl) ?_
              refine lv_icmp_lt (tgt := 92) hx hb dX11_mean_76 (by decide) (fun c12 => ?_) (fun c12 => ?_)
              · replace hf := it_t c12 hf
                refine lv_iconst (v := 0) hx hb dX11_mean_92 (by decide) ?_
                cases hf
                exact r_iret C hP hS dX11_mean_93
              · replace hf := it_f c12 hf
                refine lv_aload_n hx hb dX11_mean_79 rfl (lv_at hl 2 rfl) ?_
                refine r_get (k := 53) (v := .int (σ1 0 53)) C hP oM_0 rfl iX11 (by decide) wm_t1070 rfl rfl dX11_mean_80 ?_
                refine lv_iload hx hb dX11_mean_83 (lv_at hl 0 rfl) ?_
                refine lv_icmp_gt (tgt := 92) hx hb dX11_mean_85 (by decide) (fun c13 => ?_) (fun c13 => ?_)
                · replace hf := it_t c13 hf
                  refine lv_iconst (v := 0) hx hb dX11_mean_92 (by decide) ?_
                  cases hf
                  exact r_iret C hP hS dX11_mean_93
                · replace hf := it_f c13 hf
                  refine lv_iconst (v := 1) hx hb dX11_mean_88 (by decide) ?_
                  refine lv_goto (tgt := 93) hx hb dX11_mean_89 (by decide) ?_
                  cases hf
                  exact r_iret C hP hS dX11_mean_93
            · replace hf := it_t c11 hf
              refine lv_iconst (v := (-1)) hx hb dX11_mean_67 (by decide) ?_
              refine lv_goto (tgt := 93) hx hb dX11_mean_68 (by decide) ?_
              cases hf
              exact r_iret C hP hS dX11_mean_93
          · replace hf := it_t c10 hf
            refine lv_iload hx hb dX11_mean_56 (lv_at hl 0 rfl) ?_
            cases hf
            exact r_iret C hP hS dX11_mean_58
        · replace hf := it_t c7 hf
          refine lv_iload_n hx hb dX11_mean_41 rfl (lv_at hl 0 rfl) ?_
          cases hf
          exact r_iret C hP hS dX11_mean_42
    · replace hf := it_t c3 hf
      refine lv_iconst (v := (-1)) hx hb dX11_mean_23 (by decide) ?_
      cases hf
      exact r_iret C hP hS dX11_mean_24
def fX11_paper (σ : St) (a0 : Int32) : Option (Int32 × St) :=
(nmS (st_put σ 0 0 0) fun σ1 =>
(if (fX11_isIn a0 (-1) 99) = 0 then
some (0, σ1)
else
(nmS (st_put σ1 0 53 a0) fun σ3 =>
some (1, σ3))))
set_option maxHeartbeats 4000000 in
theorem c_fX11_paper {E : Ev} {l : Launch} (hj : jW false E) (σ : St) (sz : Nat) (a0 : Int32) {rr : Int32} {sr : St} (hf : fX11_paper σ a0 = some (rr, sr)) : Met l yX11_paper (Cond.code yX11_paper cX11_paper 2 (some .boolean) :: gT) (rmD 2) (va_Pc [.ref (ea E 0), .int a0] (preW false E σ sz)) (QI false E rr sr sz) 0 0 (aW false E sz) := by
  refine r_entry (QI false E rr sr) hj (by decide) [.ref (ea E 0), .int a0] (Nat.le_of_ble_eq_true rfl) (fun p e s m args below meth c C => ?_)
  intro H locs ls hP hS hl
  have hl : lv_has ls 2 [(0, .ref (ea E 0)), (1, .int a0)] := hl
  obtain ⟨hx, hb, hr, hml, hown, hts, hlocks, hK, hX, hj⟩ := id C
  unfold fX11_paper at hf
  refine lv_aload_n hx hb dX11_paper_0 rfl (lv_at hl 0 rfl) ?_
  refine lv_iconst (v := 0) hx hb dX11_paper_1 (by decide) ?_
  refine r_put (k := 0) (x := 0) C hP hS tyX11 tyX11_ok nmX11 oM_0 rfl iX11 (by decide) wm_t1017 rfl rfl sM_0_0 rfl rfl (Nat.le_of_ble_eq_true rfl) dX11_paper_2 (fun H locs hP hS => ?_)
  obtain ⟨σ1, eσ1, hf⟩ := nmS_e hf
  rw [← eσ1] at hP
  refine lv_aload_n hx hb dX11_paper_5 rfl (lv_at hl 0 rfl) ?_
  refine lv_iload_n hx hb dX11_paper_6 rfl (lv_at hl 1 rfl) ?_
  refine lv_iconst (v := (-1)) hx hb dX11_paper_7 (by decide) ?_
  refine lv_bipush (v := 99) hx hb dX11_paper_8 (by decide) ?_
  refine r_cVi (n := 3) (As := [.int a0, .int (-1), .int 99]) (rest := []) C (c_fX11_isIn hj σ1 H.size a0 (-1) 99) oM_0 rfl gv_RX11_144 (by decide +kernel) (rmD_le (by decide) (by decide)) rfl rfl (Nat.le_of_ble_eq_true rfl) dX11_paper_10 hP hS hl.1 (fun H locs hP hS => ?_)
  refine lv_if_ne (tgt := 18) hx hb dX11_paper_13 (by decide) (fun c2 => ?_) (fun c2 => ?_)
  · replace hf := it_f c2 hf
    refine lv_aload_n hx hb dX11_paper_18 rfl (lv_at hl 0 rfl) ?_
    refine lv_iload_n hx hb dX11_paper_19 rfl (lv_at hl 1 rfl) ?_
    refine r_put (k := 53) (x := a0) C hP hS tyX11 tyX11_ok nmX11 oM_0 rfl iX11 (by decide) wm_t1070 rfl rfl sM_0_53 rfl rfl (Nat.le_of_ble_eq_true rfl) dX11_paper_20 (fun H locs hP hS => ?_)
    obtain ⟨σ3, eσ3, hf⟩ := nmS_e hf
    rw [← eσ3] at hP
    refine lv_iconst (v := 1) hx hb dX11_paper_23 (by decide) ?_
    cases hf
    exact r_zret C rfl hP hS dX11_paper_24
  · replace hf := it_t c2 hf
    refine lv_iconst (v := 0) hx hb dX11_paper_16 (by decide) ?_
    cases hf
    exact r_zret C rfl hP hS dX11_paper_17
def fX11_place (σ : St) (a0 : Int32) (a1 : Int32) (a2 : Int32) (a3 : Int32) : Option (Int32 × St) :=
(nmS (st_put σ 0 0 0) fun σ1 =>
(if (fX11_isIn a0 0 7) = 0 then
some (0, σ1)
else
(if (fX11_heapAt a1 a2 a3) = (-1) then
some (0, σ1)
else
(wrK 8 σ1 33 a0 (fX11_heapAt a1 a2 a3) fun σ4 =>
some (1, σ4)))))
set_option maxHeartbeats 4000000 in
theorem c_fX11_place {E : Ev} {l : Launch} (hj : jW false E) (σ : St) (sz : Nat) (a0 : Int32) (a1 : Int32) (a2 : Int32) (a3 : Int32) {rr : Int32} {sr : St} (hf : fX11_place σ a0 a1 a2 a3 = some (rr, sr)) : Met l yX11_place (Cond.code yX11_place cX11_place 6 (some .boolean) :: gT) (rmD 3) (va_Pc [.ref (ea E 0), .int a0, .int a1, .int a2, .int a3] (preW false E σ sz)) (QI false E rr sr sz) 0 0 (aW false E sz) := by
  refine r_entry (QI false E rr sr) hj (by decide) [.ref (ea E 0), .int a0, .int a1, .int a2, .int a3] (Nat.le_of_ble_eq_true rfl) (fun p e s m args below meth c C => ?_)
  intro H locs ls hP hS hl
  have hl : lv_has ls 6 [(0, .ref (ea E 0)), (1, .int a0), (2, .int a1), (3, .int a2), (4, .int a3)] := hl
  obtain ⟨hx, hb, hr, hml, hown, hts, hlocks, hK, hX, hj⟩ := id C
  unfold fX11_place at hf
  refine lv_aload_n hx hb dX11_place_0 rfl (lv_at hl 0 rfl) ?_
  refine lv_iconst (v := 0) hx hb dX11_place_1 (by decide) ?_
  refine r_put (k := 0) (x := 0) C hP hS tyX11 tyX11_ok nmX11 oM_0 rfl iX11 (by decide) wm_t1017 rfl rfl sM_0_0 rfl rfl (Nat.le_of_ble_eq_true rfl) dX11_place_2 (fun H locs hP hS => ?_)
  obtain ⟨σ1, eσ1, hf⟩ := nmS_e hf
  rw [← eσ1] at hP
  refine lv_aload_n hx hb dX11_place_5 rfl (lv_at hl 0 rfl) ?_
  refine lv_iload_n hx hb dX11_place_6 rfl (lv_at hl 2 rfl) ?_
  refine lv_iload_n hx hb dX11_place_7 rfl (lv_at hl 3 rfl) ?_
  refine lv_iload hx hb dX11_place_8 (lv_at hl 4 rfl) ?_
  refine r_cVi (n := 3) (As := [.int a1, .int a2, .int a3]) (rest := []) C (c_fX11_heapAt hj σ1 H.size a1 a2 a3) oM_0 rfl gv_RX11_151 (by decide +kernel) (rmD_le (by decide) (by decide)) rfl rfl (Nat.le_of_ble_eq_true rfl) dX11_place_10 hP hS hl.1 (fun H locs hP hS => ?_)
  refine lv_istore (lv' := [(5, .int (fX11_heapAt a1 a2 a3)), (0, .ref (ea E 0)), (1, .int a0), (2, .int a1), (3, .int a2), (4, .int a3)]) hx hb dX11_place_13 hl (by decide) rfl (fun ls hl => ?_)
  refine lv_aload_n hx hb dX11_place_15 rfl (lv_at hl 1 rfl) ?_
  refine lv_iload_n hx hb dX11_place_16 rfl (lv_at hl 2 rfl) ?_
  refine lv_iconst (v := 0) hx hb dX11_place_17 (by decide) ?_
  refine lv_bipush (v := 7) hx hb dX11_place_18 (by decide) ?_
  refine r_cVi (n := 3) (As := [.int a0, .int 0, .int 7]) (rest := []) C (c_fX11_isIn hj σ1 H.size a0 0 7) oM_0 rfl gv_RX11_144 (by decide +kernel) (rmD_le (by decide) (by decide)) rfl rfl (Nat.le_of_ble_eq_true rfl) dX11_place_20 hP hS hl.1 (fun H locs hP hS => ?_)
  refine lv_if_eq (tgt := 32) hx hb dX11_place_23 (by decide) (fun c2 => ?_) (fun c2 => ?_)
  · replace hf := it_t c2 hf
    refine lv_iconst (v := 0) hx hb dX11_place_32 (by decide) ?_
    cases hf
    exact r_zret C rfl hP hS dX11_place_33
  · replace hf := it_f c2 hf
    refine lv_iload hx hb dX11_place_26 (lv_at hl 0 rfl) ?_
    refine lv_iconst (v := (-1)) hx hb dX11_place_28 (by decide) ?_
    refine lv_icmp_ne (tgt := 34) hx hb dX11_place_29 (by decide) (fun c3 => ?_) (fun c3 => ?_)
    · replace hf := it_f c3 hf
      refine lv_aload_n hx hb dX11_place_34 rfl (lv_at hl 1 rfl) ?_
      refine r_get (k := 54) (v := .ref (ea E 33)) C hP oM_0 rfl iX11 (by decide) wm_t1071 rfl rfl dX11_place_35 ?_
      refine lv_iload_n hx hb dX11_place_38 rfl (lv_at hl 2 rfl) ?_
      refine lv_iload hx hb dX11_place_39 (lv_at hl 0 rfl) ?_
      obtain ⟨h5, σ4, eσ4, hf⟩ := wrK_e hf
      refine r_ast C hP hS aM_33 h5 dX11_place_41 (fun H locs hP hS => ?_)
      rw [← eσ4] at hP
      refine lv_iconst (v := 1) hx hb dX11_place_42 (by decide) ?_
      cases hf
      exact r_zret C rfl hP hS dX11_place_43
    · replace hf := it_t c3 hf
      refine lv_iconst (v := 0) hx hb dX11_place_32 (by decide) ?_
      cases hf
      exact r_zret C rfl hP hS dX11_place_33
def fX11_ones_4B (rec4 : Int32 → Int32 → Option Int32) (x2 : Int32) (x3 : Int32) : Option Int32 :=
(if x3 = 0 then
some x2
else
rec4 (x2 + 1) (x3 &&& (x3 - 1)))
set_option maxHeartbeats 4000000 in
theorem b_fX11_ones_4B {E : Ev} {l : Launch} {p : Program} {e : Env} {s : State} {m : MethodId} {args : Array Value} {below : List Frame} {meth : Method} {c : Code} (σ : St) (C : CX false E RX11 cX11_ones 4 (some .int) p s m args meth c) {rr : Int32} (rec4 : Int32 → Int32 → Option Int32) (hr4 : ∀  (x2 : Int32) (x3 : Int32), rec4 x2 x3 = some rr → GW false l (rmD 1) E 4 p e s m args below meth c (MQ below (QI false E rr σ s.heap.size) args s 0 0 (aW false E s.heap.size)) σ 4 [(2, .int x2), (3, .int x3)] []) : ∀  (x2 : Int32) (x3 : Int32), fX11_ones_4B rec4 x2 x3 = some rr → GW false l (rmD 1) E 4 p e s m args below meth c (MQ below (QI false E rr σ s.heap.size) args s 0 0 (aW false E s.heap.size)) σ 4 [(2, .int x2), (3, .int x3)] [] := by
  intro x2 x3 hf H locs ls hP hS hl
  obtain ⟨hx, hb, hr, hml, hown, hts, hlocks, hK, hX, hj⟩ := id C
  unfold fX11_ones_4B at hf
  refine lv_iload_n hx hb dX11_ones_4 rfl (lv_at hl 1 rfl) ?_
  refine lv_if_eq (tgt := 21) hx hb dX11_ones_5 (by decide) (fun c1 => ?_) (fun c1 => ?_)
  · replace hf := it_t c1 hf
    refine lv_iload_n hx hb dX11_ones_21 rfl (lv_at hl 0 rfl) ?_
    cases hf
    exact r_iret C hP hS dX11_ones_22
  · replace hf := it_f c1 hf
    refine lv_iload_n hx hb dX11_ones_8 rfl (lv_at hl 0 rfl) ?_
    refine lv_iconst (v := 1) hx hb dX11_ones_9 (by decide) ?_
    refine lv_iadd hx hb dX11_ones_10 ?_
    refine lv_istore_n (lv' := [(2, .int (x2 + 1)), (3, .int x3)]) hx hb dX11_ones_11 rfl hl (by decide) rfl (fun ls hl => ?_)
    refine lv_iload_n hx hb dX11_ones_12 rfl (lv_at hl 1 rfl) ?_
    refine lv_iload_n hx hb dX11_ones_13 rfl (lv_at hl 1 rfl) ?_
    refine lv_iconst (v := 1) hx hb dX11_ones_14 (by decide) ?_
    refine lv_isub hx hb dX11_ones_15 ?_
    refine lv_iand hx hb dX11_ones_16 ?_
    refine lv_istore_n (lv' := [(3, .int (x3 &&& (x3 - 1))), (2, .int (x2 + 1))]) hx hb dX11_ones_17 rfl hl (by decide) rfl (fun ls hl => ?_)
    refine lv_goto (tgt := 4) hx hb dX11_ones_18 (by decide) ?_
    exact hr4 (x2 + 1) (x3 &&& (x3 - 1)) hf H locs ls hP hS (lv_sub hl [1, 0] rfl)
def fX11_ones_4 : Nat → Int32 → Int32 → Option Int32
  | 0 => fun _ _ => none
  | n + 1 => fun x2 x3 => fX11_ones_4B (fX11_ones_4 n) x2 x3
theorem b_fX11_ones_4 {E : Ev} {l : Launch} {p : Program} {e : Env} {s : State} {m : MethodId} {args : Array Value} {below : List Frame} {meth : Method} {c : Code} (σ : St) (C : CX false E RX11 cX11_ones 4 (some .int) p s m args meth c) {rr : Int32} : ∀ (n : Nat) (x2 : Int32) (x3 : Int32), fX11_ones_4 n x2 x3 = some rr → GW false l (rmD 1) E 4 p e s m args below meth c (MQ below (QI false E rr σ s.heap.size) args s 0 0 (aW false E s.heap.size)) σ 4 [(2, .int x2), (3, .int x3)] [] := by
  intro n
  induction n with
  | zero => intro x2 x3 hf; have hf : (none : Option _) = some _ := hf; cases hf
  | succ n ih => intro x2 x3 hf; exact b_fX11_ones_4B σ C (fX11_ones_4 n) ih x2 x3 hf
def fX11_ones (a0 : Int32) : Option Int32 :=
fX11_ones_4 FU 0 a0
set_option maxHeartbeats 4000000 in
theorem c_fX11_ones {E : Ev} {l : Launch} (hj : jW false E) (σ : St) (sz : Nat) (a0 : Int32) {rr : Int32} (hf : fX11_ones a0 = some rr) : Met l yX11_ones (Cond.code yX11_ones cX11_ones 4 (some .int) :: gT) (rmD 1) (va_Pc [.ref (ea E 0), .int a0] (preW false E σ sz)) (QI false E rr σ sz) 0 0 (aW false E sz) := by
  refine r_entry (QI false E rr σ) hj (by decide) [.ref (ea E 0), .int a0] (Nat.le_of_ble_eq_true rfl) (fun p e s m args below meth c C => ?_)
  intro H locs ls hP hS hl
  have hl : lv_has ls 4 [(0, .ref (ea E 0)), (1, .int a0)] := hl
  obtain ⟨hx, hb, hr, hml, hown, hts, hlocks, hK, hX, hj⟩ := id C
  unfold fX11_ones at hf
  refine lv_iconst (v := 0) hx hb dX11_ones_0 (by decide) ?_
  refine lv_istore_n (lv' := [(2, .int 0), (0, .ref (ea E 0)), (1, .int a0)]) hx hb dX11_ones_1 rfl hl (by decide) rfl (fun ls hl => ?_)
  refine lv_iload_n hx hb dX11_ones_2 rfl (lv_at hl 2 rfl) ?_
  refine lv_istore_n (lv' := [(3, .int a0), (2, .int 0), (0, .ref (ea E 0)), (1, .int a0)]) hx hb dX11_ones_3 rfl hl (by decide) rfl (fun ls hl => ?_)
  exact b_fX11_ones_4 σ C FU 0 a0 hf H locs ls hP hS (lv_sub hl [1, 0] rfl)
def fX11_isFair_2B (σ : St) (rec2 : Int32 → Int32 → Option Int32) (x1 : Int32) (x2 : Int32) : Option Int32 :=
(if 256 ≤ x2 then
some 1
else
(rdK 256 (σ 3) x2 fun v2 =>
(if v2 ≤ 0 then
rec2 x1 (x2 + 1)
else
(rdK 256 (σ 34) x2 fun v5 =>
(if (v5 &&& x1) = 0 then
some 0
else
rec2 x1 (x2 + 1))))))
set_option maxHeartbeats 4000000 in
theorem b_fX11_isFair_2B {E : Ev} {l : Launch} {p : Program} {e : Env} {s : State} {m : MethodId} {args : Array Value} {below : List Frame} {meth : Method} {c : Code} (σ : St) (C : CX false E RX11 cX11_isFair 3 (some .boolean) p s m args meth c) {rr : Int32} (rec2 : Int32 → Int32 → Option Int32) (hr2 : ∀  (x1 : Int32) (x2 : Int32), rec2 x1 x2 = some rr → GW false l (rmD 1) E 3 p e s m args below meth c (MQ below (QI false E rr σ s.heap.size) args s 0 0 (aW false E s.heap.size)) σ 2 [(0, .ref (ea E 0)), (1, .int x1), (2, .int x2)] []) : ∀  (x1 : Int32) (x2 : Int32), fX11_isFair_2B σ rec2 x1 x2 = some rr → GW false l (rmD 1) E 3 p e s m args below meth c (MQ below (QI false E rr σ s.heap.size) args s 0 0 (aW false E s.heap.size)) σ 2 [(0, .ref (ea E 0)), (1, .int x1), (2, .int x2)] [] := by
  intro x1 x2 hf H locs ls hP hS hl
  obtain ⟨hx, hb, hr, hml, hown, hts, hlocks, hK, hX, hj⟩ := id C
  unfold fX11_isFair_2B at hf
  refine lv_iload_n hx hb dX11_isFair_2 rfl (lv_at hl 2 rfl) ?_
  refine lv_sipush (v := 256) hx hb dX11_isFair_3 (by decide) ?_
  refine lv_icmp_ge (tgt := 37) hx hb dX11_isFair_6 (by decide) (fun c1 => ?_) (fun c1 => ?_)
  · replace hf := it_t c1 hf
    refine lv_iconst (v := 1) hx hb dX11_isFair_37 (by decide) ?_
    cases hf
    exact r_zret C rfl hP hS dX11_isFair_38
  · replace hf := it_f c1 hf
    refine lv_aload_n hx hb dX11_isFair_9 rfl (lv_at hl 0 rfl) ?_
    refine r_get (k := 5) (v := .ref (ea E 3)) C hP oM_0 rfl iX11 (by decide) wm_t1022 rfl rfl dX11_isFair_10 ?_
    refine lv_iload_n hx hb dX11_isFair_13 rfl (lv_at hl 2 rfl) ?_
    have h3 := (rdK_e hf).1
    refine r_ald C hP aM_3 h3 dX11_isFair_14 ?_
    refine lv_topi (fun v2 ev2 => ?_)
    replace hf := rdK_n ev2 hf
    refine lv_if_le (tgt := 31) hx hb dX11_isFair_15 (by decide) (fun c4 => ?_) (fun c4 => ?_)
    · replace hf := it_t c4 hf
      refine lv_iinc (v := (x2 + 1)) (lv' := [(2, .int (x2 + 1)), (0, .ref (ea E 0)), (1, .int x1)]) hx hb dX11_isFair_31 hl (k := 2) rfl rfl (by decide) rfl (fun ls hl => ?_)
      refine lv_goto (tgt := 2) hx hb dX11_isFair_34 (by decide) ?_
      exact hr2 x1 (x2 + 1) hf H locs ls hP hS (lv_sub hl [1, 2, 0] rfl)
    · replace hf := it_f c4 hf
      refine lv_aload_n hx hb dX11_isFair_18 rfl (lv_at hl 0 rfl) ?_
      refine r_get (k := 55) (v := .ref (ea E 34)) C hP oM_0 rfl iX11 (by decide) wm_t1072 rfl rfl dX11_isFair_19 ?_
      refine lv_iload_n hx hb dX11_isFair_22 rfl (lv_at hl 2 rfl) ?_
      have h6 := (rdK_e hf).1
      refine r_ald C hP aM_34 h6 dX11_isFair_23 ?_
      refine lv_topi (fun v5 ev5 => ?_)
      replace hf := rdK_n ev5 hf
      refine lv_iload_n hx hb dX11_isFair_24 rfl (lv_at hl 1 rfl) ?_
      refine lv_iand hx hb dX11_isFair_25 ?_
      refine lv_if_ne (tgt := 31) hx hb dX11_isFair_26 (by decide) (fun c7 => ?_) (fun c7 => ?_)
      · replace hf := it_f c7 hf
        refine lv_iinc (v := (x2 + 1)) (lv' := [(2, .int (x2 + 1)), (0, .ref (ea E 0)), (1, .int x1)]) hx hb dX11_isFair_31 hl (k := 2) rfl rfl (by decide) rfl (fun ls hl => ?_)
        refine lv_goto (tgt := 2) hx hb dX11_isFair_34 (by decide) ?_
        exact hr2 x1 (x2 + 1) hf H locs ls hP hS (lv_sub hl [1, 2, 0] rfl)
      · replace hf := it_t c7 hf
        refine lv_iconst (v := 0) hx hb dX11_isFair_29 (by decide) ?_
        cases hf
        exact r_zret C rfl hP hS dX11_isFair_30
def fX11_isFair_2 (σ : St) : Nat → Int32 → Int32 → Option Int32
  | 0 => fun _ _ => none
  | n + 1 => fun x1 x2 => fX11_isFair_2B σ (fX11_isFair_2 σ n) x1 x2
theorem b_fX11_isFair_2 {E : Ev} {l : Launch} {p : Program} {e : Env} {s : State} {m : MethodId} {args : Array Value} {below : List Frame} {meth : Method} {c : Code} (σ : St) (C : CX false E RX11 cX11_isFair 3 (some .boolean) p s m args meth c) {rr : Int32} : ∀ (n : Nat) (x1 : Int32) (x2 : Int32), fX11_isFair_2 σ n x1 x2 = some rr → GW false l (rmD 1) E 3 p e s m args below meth c (MQ below (QI false E rr σ s.heap.size) args s 0 0 (aW false E s.heap.size)) σ 2 [(0, .ref (ea E 0)), (1, .int x1), (2, .int x2)] [] := by
  intro n
  induction n with
  | zero => intro x1 x2 hf; have hf : (none : Option _) = some _ := hf; cases hf
  | succ n ih => intro x1 x2 hf; exact b_fX11_isFair_2B σ C (fX11_isFair_2 σ n) ih x1 x2 hf
def fX11_isFair (σ : St) (a0 : Int32) : Option Int32 :=
fX11_isFair_2 σ FU a0 0
set_option maxHeartbeats 4000000 in
theorem c_fX11_isFair {E : Ev} {l : Launch} (hj : jW false E) (σ : St) (sz : Nat) (a0 : Int32) {rr : Int32} (hf : fX11_isFair σ a0 = some rr) : Met l yX11_isFair (Cond.code yX11_isFair cX11_isFair 3 (some .boolean) :: gT) (rmD 1) (va_Pc [.ref (ea E 0), .int a0] (preW false E σ sz)) (QI false E rr σ sz) 0 0 (aW false E sz) := by
  refine r_entry (QI false E rr σ) hj (by decide) [.ref (ea E 0), .int a0] (Nat.le_of_ble_eq_true rfl) (fun p e s m args below meth c C => ?_)
  intro H locs ls hP hS hl
  have hl : lv_has ls 3 [(0, .ref (ea E 0)), (1, .int a0)] := hl
  obtain ⟨hx, hb, hr, hml, hown, hts, hlocks, hK, hX, hj⟩ := id C
  unfold fX11_isFair at hf
  refine lv_iconst (v := 0) hx hb dX11_isFair_0 (by decide) ?_
  refine lv_istore_n (lv' := [(2, .int 0), (0, .ref (ea E 0)), (1, .int a0)]) hx hb dX11_isFair_1 rfl hl (by decide) rfl (fun ls hl => ?_)
  exact b_fX11_isFair_2 σ C FU a0 0 hf H locs ls hP hS (lv_sub hl [1, 2, 0] rfl)
def fX11_fair_173 (rec137 : St → Int32 → Int32 → Int32 → Option (Int32 × St)) (σ : St) (x2 : Int32) (x3 : Int32) (x4 : Int32) : Option (Int32 × St) :=
(cq (fX11_isFair σ x4) fun r1 =>
(if r1 = 0 then
rec137 σ x2 x3 (x4 + 1)
else
rec137 σ x2 x4 (x4 + 1)))
set_option maxHeartbeats 4000000 in
theorem b_fX11_fair_173 {E : Ev} {l : Launch} {p : Program} {e : Env} {s : State} {m : MethodId} {args : Array Value} {below : List Frame} {meth : Method} {c : Code} (C : CX false E RX11 cX11_fair 5 (some .int) p s m args meth c) {rr : Int32} {sr : St} (rec137 : St → Int32 → Int32 → Int32 → Option (Int32 × St)) (hr137 : ∀ (σ : St) (x2 : Int32) (x3 : Int32) (x4 : Int32), rec137 σ x2 x3 x4 = some (rr, sr) → GW false l (rmD 3) E 5 p e s m args below meth c (MQ below (QI false E rr sr s.heap.size) args s 0 0 (aW false E s.heap.size)) σ 137 [(0, .ref (ea E 0)), (2, .int x2), (3, .int x3), (4, .int x4)] []) : ∀ (σ : St) (x2 : Int32) (x3 : Int32) (x4 : Int32), fX11_fair_173 rec137 σ x2 x3 x4 = some (rr, sr) → GW false l (rmD 3) E 5 p e s m args below meth c (MQ below (QI false E rr sr s.heap.size) args s 0 0 (aW false E s.heap.size)) σ 173 [(0, .ref (ea E 0)), (2, .int x2), (3, .int x3), (4, .int x4)] [] := by
  intro σ x2 x3 x4 hf H locs ls hP hS hl
  obtain ⟨hx, hb, hr, hml, hown, hts, hlocks, hK, hX, hj⟩ := id C
  unfold fX11_fair_173 at hf
  refine lv_aload_n hx hb dX11_fair_173 rfl (lv_at hl 0 rfl) ?_
  refine lv_iload hx hb dX11_fair_174 (lv_at hl 3 rfl) ?_
  obtain ⟨r1, hc2, hf⟩ := cq_e hf
  refine r_cVi (n := 1) (As := [.int x4]) (rest := []) C (c_fX11_isFair hj σ H.size x4 hc2) oM_0 rfl gv_RX11_385 (by decide +kernel) (rmD_le (by decide) (by decide)) rfl rfl (Nat.le_of_ble_eq_true rfl) dX11_fair_176 hP hS hl.1 (fun H locs hP hS => ?_)
  refine lv_if_eq (tgt := 185) hx hb dX11_fair_179 (by decide) (fun c3 => ?_) (fun c3 => ?_)
  · replace hf := it_t c3 hf
    refine lv_iinc (v := (x4 + 1)) (lv' := [(4, .int (x4 + 1)), (0, .ref (ea E 0)), (2, .int x2), (3, .int x3)]) hx hb dX11_fair_185 hl (k := 3) rfl rfl (by decide) rfl (fun ls hl => ?_)
    refine lv_goto (tgt := 137) hx hb dX11_fair_188 (by decide) ?_
    exact hr137 σ x2 x3 (x4 + 1) hf H locs ls hP hS (lv_sub hl [1, 2, 3, 0] rfl)
  · replace hf := it_f c3 hf
    refine lv_iload hx hb dX11_fair_182 (lv_at hl 3 rfl) ?_
    refine lv_istore_n (lv' := [(3, .int x4), (0, .ref (ea E 0)), (2, .int x2), (4, .int x4)]) hx hb dX11_fair_184 rfl hl (by decide) rfl (fun ls hl => ?_)
    refine lv_iinc (v := (x4 + 1)) (lv' := [(4, .int (x4 + 1)), (3, .int x4), (0, .ref (ea E 0)), (2, .int x2)]) hx hb dX11_fair_185 hl (k := 3) rfl rfl (by decide) rfl (fun ls hl => ?_)
    refine lv_goto (tgt := 137) hx hb dX11_fair_188 (by decide) ?_
    exact hr137 σ x2 x4 (x4 + 1) hf H locs ls hP hS (lv_sub hl [2, 3, 1, 0] rfl)
def fX11_fair_137B (rec137 : St → Int32 → Int32 → Int32 → Option (Int32 × St)) (σ : St) (x2 : Int32) (x3 : Int32) (x4 : Int32) : Option (Int32 × St) :=
(if 256 ≤ x4 then
some (x3, σ)
else
(if (x4 &&& (x2 ^^^ (-1))) = 0 then
(if x3 = (-1) then
fX11_fair_173 rec137 σ x2 x3 x4
else
(cq (fX11_ones x4) fun r4 =>
(cq (fX11_ones x3) fun r6 =>
(if r6 ≤ r4 then
rec137 σ x2 x3 (x4 + 1)
else
fX11_fair_173 rec137 σ x2 x3 x4))))
else
rec137 σ x2 x3 (x4 + 1)))
set_option maxHeartbeats 4000000 in
theorem b_fX11_fair_137B {E : Ev} {l : Launch} {p : Program} {e : Env} {s : State} {m : MethodId} {args : Array Value} {below : List Frame} {meth : Method} {c : Code} (C : CX false E RX11 cX11_fair 5 (some .int) p s m args meth c) {rr : Int32} {sr : St} (rec137 : St → Int32 → Int32 → Int32 → Option (Int32 × St)) (hr137 : ∀ (σ : St) (x2 : Int32) (x3 : Int32) (x4 : Int32), rec137 σ x2 x3 x4 = some (rr, sr) → GW false l (rmD 3) E 5 p e s m args below meth c (MQ below (QI false E rr sr s.heap.size) args s 0 0 (aW false E s.heap.size)) σ 137 [(0, .ref (ea E 0)), (2, .int x2), (3, .int x3), (4, .int x4)] []) : ∀ (σ : St) (x2 : Int32) (x3 : Int32) (x4 : Int32), fX11_fair_137B rec137 σ x2 x3 x4 = some (rr, sr) → GW false l (rmD 3) E 5 p e s m args below meth c (MQ below (QI false E rr sr s.heap.size) args s 0 0 (aW false E s.heap.size)) σ 137 [(0, .ref (ea E 0)), (2, .int x2), (3, .int x3), (4, .int x4)] [] := by
  intro σ x2 x3 x4 hf H locs ls hP hS hl
  obtain ⟨hx, hb, hr, hml, hown, hts, hlocks, hK, hX, hj⟩ := id C
  unfold fX11_fair_137B at hf
  refine lv_iload hx hb dX11_fair_137 (lv_at hl 3 rfl) ?_
  refine lv_sipush (v := 256) hx hb dX11_fair_139 (by decide) ?_
  refine lv_icmp_ge (tgt := 191) hx hb dX11_fair_142 (by decide) (fun c1 => ?_) (fun c1 => ?_)
  · replace hf := it_t c1 hf
    refine lv_iload_n hx hb dX11_fair_191 rfl (lv_at hl 2 rfl) ?_
    cases hf
    exact r_iret C hP hS dX11_fair_192
  · replace hf := it_f c1 hf
    refine lv_iload hx hb dX11_fair_145 (lv_at hl 3 rfl) ?_
    refine lv_iload_n hx hb dX11_fair_147 rfl (lv_at hl 1 rfl) ?_
    refine lv_iconst (v := (-1)) hx hb dX11_fair_148 (by decide) ?_
    refine lv_ixor hx hb dX11_fair_149 ?_
    refine lv_iand hx hb dX11_fair_150 ?_
    refine lv_if_ne (tgt := 185) hx hb dX11_fair_151 (by decide) (fun c2 => ?_) (fun c2 => ?_)
    · replace hf := it_f c2 hf
      refine lv_iinc (v := (x4 + 1)) (lv' := [(4, .int (x4 + 1)), (0, .ref (ea E 0)), (2, .int x2), (3, .int x3)]) hx hb dX11_fair_185 hl (k := 3) rfl rfl (by decide) rfl (fun ls hl => ?_)
      refine lv_goto (tgt := 137) hx hb dX11_fair_188 (by decide) ?_
      exact hr137 σ x2 x3 (x4 + 1) hf H locs ls hP hS (lv_sub hl [1, 2, 3, 0] rfl)
    · replace hf := it_t c2 hf
      refine lv_iload_n hx hb dX11_fair_154 rfl (lv_at hl 2 rfl) ?_
      refine lv_iconst (v := (-1)) hx hb dX11_fair_155 (by decide) ?_
      refine lv_icmp_eq (tgt := 173) hx hb dX11_fair_156 (by decide) (fun c3 => ?_) (fun c3 => ?_)
      · replace hf := it_t c3 hf
        exact b_fX11_fair_173 C rec137 hr137 σ x2 x3 x4 hf H locs ls hP hS (lv_sub hl [0, 1, 2, 3] rfl)
      · replace hf := it_f c3 hf
        refine lv_aload_n hx hb dX11_fair_159 rfl (lv_at hl 0 rfl) ?_
        refine lv_iload hx hb dX11_fair_160 (lv_at hl 3 rfl) ?_
        obtain ⟨r4, hc5, hf⟩ := cq_e hf
        refine r_cVi (n := 1) (As := [.int x4]) (rest := []) C (c_fX11_ones hj σ H.size x4 hc5) oM_0 rfl gv_RX11_382 (by decide +kernel) (rmD_le (by decide) (by decide)) rfl rfl (Nat.le_of_ble_eq_true rfl) dX11_fair_162 hP hS hl.1 (fun H locs hP hS => ?_)
        refine lv_aload_n hx hb dX11_fair_165 rfl (lv_at hl 0 rfl) ?_
        refine lv_iload_n hx hb dX11_fair_166 rfl (lv_at hl 2 rfl) ?_
        obtain ⟨r6, hc7, hf⟩ := cq_e hf
        refine r_cVi (n := 1) (As := [.int x3]) (rest := [.int r4]) C (c_fX11_ones hj σ H.size x3 hc7) oM_0 rfl gv_RX11_382 (by decide +kernel) (rmD_le (by decide) (by decide)) rfl rfl (Nat.le_of_ble_eq_true rfl) dX11_fair_167 hP hS hl.1 (fun H locs hP hS => ?_)
        refine lv_icmp_ge (tgt := 185) hx hb dX11_fair_170 (by decide) (fun c8 => ?_) (fun c8 => ?_)
        · replace hf := it_t c8 hf
          refine lv_iinc (v := (x4 + 1)) (lv' := [(4, .int (x4 + 1)), (0, .ref (ea E 0)), (2, .int x2), (3, .int x3)]) hx hb dX11_fair_185 hl (k := 3) rfl rfl (by decide) rfl (fun ls hl => ?_)
          refine lv_goto (tgt := 137) hx hb dX11_fair_188 (by decide) ?_
          exact hr137 σ x2 x3 (x4 + 1) hf H locs ls hP hS (lv_sub hl [1, 2, 3, 0] rfl)
        · replace hf := it_f c8 hf
          exact b_fX11_fair_173 C rec137 hr137 σ x2 x3 x4 hf H locs ls hP hS (lv_sub hl [0, 1, 2, 3] rfl)
def fX11_fair_137 : Nat → St → Int32 → Int32 → Int32 → Option (Int32 × St)
  | 0 => fun _ _ _ _ => none
  | n + 1 => fun σ x2 x3 x4 => fX11_fair_137B (fX11_fair_137 n) σ x2 x3 x4
theorem b_fX11_fair_137 {E : Ev} {l : Launch} {p : Program} {e : Env} {s : State} {m : MethodId} {args : Array Value} {below : List Frame} {meth : Method} {c : Code} (C : CX false E RX11 cX11_fair 5 (some .int) p s m args meth c) {rr : Int32} {sr : St} : ∀ (n : Nat) (σ : St) (x2 : Int32) (x3 : Int32) (x4 : Int32), fX11_fair_137 n σ x2 x3 x4 = some (rr, sr) → GW false l (rmD 3) E 5 p e s m args below meth c (MQ below (QI false E rr sr s.heap.size) args s 0 0 (aW false E s.heap.size)) σ 137 [(0, .ref (ea E 0)), (2, .int x2), (3, .int x3), (4, .int x4)] [] := by
  intro n
  induction n with
  | zero => intro σ x2 x3 x4 hf; have hf : (none : Option _) = some _ := hf; cases hf
  | succ n ih => intro σ x2 x3 x4 hf; exact b_fX11_fair_137B C (fX11_fair_137 n) ih σ x2 x3 x4 hf
def fX11_fair_69B (rec52 : St → Int32 → Int32 → Int32 → Option (Int32 × St)) (rec69 : St → Int32 → Int32 → Int32 → Int32 → Option (Int32 × St)) (σ : St) (x1 : Int32) (x2 : Int32) (x3 : Int32) (x4 : Int32) : Option (Int32 × St) :=
(if 8 ≤ x4 then
rec52 σ x1 x2 (x3 + 1)
else
(rdK 8 (σ 33) x4 fun v2 =>
(if v2 = (-1) then
rec69 σ x1 x2 x3 (x4 + 1)
else
(rdK 8 (σ 33) x4 fun v5 =>
(if x1 < (fX11_distance x3 v5) then
rec69 σ x1 x2 x3 (x4 + 1)
else
(rdK 256 (σ 34) x3 fun v8 =>
(wrK 256 σ 34 x3 (v8 ||| (1 <<< (x4 &&& 31))) fun σ10 =>
rec69 σ10 x1 x2 x3 (x4 + 1))))))))
set_option maxHeartbeats 4000000 in
theorem b_fX11_fair_69B {E : Ev} {l : Launch} {p : Program} {e : Env} {s : State} {m : MethodId} {args : Array Value} {below : List Frame} {meth : Method} {c : Code} (C : CX false E RX11 cX11_fair 5 (some .int) p s m args meth c) {rr : Int32} {sr : St} (rec52 : St → Int32 → Int32 → Int32 → Option (Int32 × St)) (hr52 : ∀ (σ : St) (x1 : Int32) (x2 : Int32) (x3 : Int32), rec52 σ x1 x2 x3 = some (rr, sr) → GW false l (rmD 3) E 5 p e s m args below meth c (MQ below (QI false E rr sr s.heap.size) args s 0 0 (aW false E s.heap.size)) σ 52 [(0, .ref (ea E 0)), (1, .int x1), (2, .int x2), (3, .int x3)] []) (rec69 : St → Int32 → Int32 → Int32 → Int32 → Option (Int32 × St)) (hr69 : ∀ (σ : St) (x1 : Int32) (x2 : Int32) (x3 : Int32) (x4 : Int32), rec69 σ x1 x2 x3 x4 = some (rr, sr) → GW false l (rmD 3) E 5 p e s m args below meth c (MQ below (QI false E rr sr s.heap.size) args s 0 0 (aW false E s.heap.size)) σ 69 [(0, .ref (ea E 0)), (1, .int x1), (2, .int x2), (3, .int x3), (4, .int x4)] []) : ∀ (σ : St) (x1 : Int32) (x2 : Int32) (x3 : Int32) (x4 : Int32), fX11_fair_69B rec52 rec69 σ x1 x2 x3 x4 = some (rr, sr) → GW false l (rmD 3) E 5 p e s m args below meth c (MQ below (QI false E rr sr s.heap.size) args s 0 0 (aW false E s.heap.size)) σ 69 [(0, .ref (ea E 0)), (1, .int x1), (2, .int x2), (3, .int x3), (4, .int x4)] [] := by
  intro σ x1 x2 x3 x4 hf H locs ls hP hS hl
  obtain ⟨hx, hb, hr, hml, hown, hts, hlocks, hK, hX, hj⟩ := id C
  unfold fX11_fair_69B at hf
  refine lv_iload hx hb dX11_fair_69 (lv_at hl 4 rfl) ?_
  refine lv_bipush (v := 8) hx hb dX11_fair_71 (by decide) ?_
  refine lv_icmp_ge (tgt := 126) hx hb dX11_fair_73 (by decide) (fun c1 => ?_) (fun c1 => ?_)
  · replace hf := it_t c1 hf
    refine lv_iinc (v := (x3 + 1)) (lv' := [(3, .int (x3 + 1)), (0, .ref (ea E 0)), (1, .int x1), (2, .int x2), (4, .int x4)]) hx hb dX11_fair_126 hl (k := 3) rfl rfl (by decide) rfl (fun ls hl => ?_)
    refine lv_goto (tgt := 52) hx hb dX11_fair_129 (by decide) ?_
    exact hr52 σ x1 x2 (x3 + 1) hf H locs ls hP hS (lv_sub hl [1, 2, 3, 0] rfl)
  · replace hf := it_f c1 hf
    refine lv_aload_n hx hb dX11_fair_76 rfl (lv_at hl 0 rfl) ?_
    refine r_get (k := 54) (v := .ref (ea E 33)) C hP oM_0 rfl iX11 (by decide) wm_t1071 rfl rfl dX11_fair_77 ?_
    refine lv_iload hx hb dX11_fair_80 (lv_at hl 4 rfl) ?_
    have h3 := (rdK_e hf).1
    refine r_ald C hP aM_33 h3 dX11_fair_82 ?_
    refine lv_topi (fun v2 ev2 => ?_)
    replace hf := rdK_n ev2 hf
    refine lv_iconst (v := (-1)) hx hb dX11_fair_83 (by decide) ?_
    refine lv_icmp_eq (tgt := 120) hx hb dX11_fair_84 (by decide) (fun c4 => ?_) (fun c4 => ?_)
    · replace hf := it_t c4 hf
      refine lv_iinc (v := (x4 + 1)) (lv' := [(4, .int (x4 + 1)), (0, .ref (ea E 0)), (1, .int x1), (2, .int x2), (3, .int x3)]) hx hb dX11_fair_120 hl (k := 4) rfl rfl (by decide) rfl (fun ls hl => ?_)
      refine lv_goto (tgt := 69) hx hb dX11_fair_123 (by decide) ?_
      exact hr69 σ x1 x2 x3 (x4 + 1) hf H locs ls hP hS (lv_sub hl [1, 2, 3, 4, 0] rfl)
    · replace hf := it_f c4 hf
      refine lv_aload_n hx hb dX11_fair_87 rfl (lv_at hl 0 rfl) ?_
      refine lv_iload_n hx hb dX11_fair_88 rfl (lv_at hl 3 rfl) ?_
      refine lv_aload_n hx hb dX11_fair_89 rfl (lv_at hl 0 rfl) ?_
      refine r_get (k := 54) (v := .ref (ea E 33)) C hP oM_0 rfl iX11 (by decide) wm_t1071 rfl rfl dX11_fair_90 ?_
      refine lv_iload hx hb dX11_fair_93 (lv_at hl 4 rfl) ?_
      have h6 := (rdK_e hf).1
      refine r_ald C hP aM_33 h6 dX11_fair_95 ?_
      refine lv_topi (fun v5 ev5 => ?_)
      replace hf := rdK_n ev5 hf
      refine r_cVi (n := 2) (As := [.int x3, .int v5]) (rest := []) C (c_fX11_distance hj σ H.size x3 v5) oM_0 rfl gv_RX11_368 (by decide +kernel) (rmD_le (by decide) (by decide)) rfl rfl (Nat.le_of_ble_eq_true rfl) dX11_fair_96 hP hS hl.1 (fun H locs hP hS => ?_)
      refine lv_iload_n hx hb dX11_fair_99 rfl (lv_at hl 1 rfl) ?_
      refine lv_icmp_gt (tgt := 120) hx hb dX11_fair_100 (by decide) (fun c7 => ?_) (fun c7 => ?_)
      · replace hf := it_t c7 hf
        refine lv_iinc (v := (x4 + 1)) (lv' := [(4, .int (x4 + 1)), (0, .ref (ea E 0)), (1, .int x1), (2, .int x2), (3, .int x3)]) hx hb dX11_fair_120 hl (k := 4) rfl rfl (by decide) rfl (fun ls hl => ?_)
        refine lv_goto (tgt := 69) hx hb dX11_fair_123 (by decide) ?_
        exact hr69 σ x1 x2 x3 (x4 + 1) hf H locs ls hP hS (lv_sub hl [1, 2, 3, 4, 0] rfl)
      · replace hf := it_f c7 hf
        refine lv_aload_n hx hb dX11_fair_103 rfl (lv_at hl 0 rfl) ?_
        refine r_get (k := 55) (v := .ref (ea E 34)) C hP oM_0 rfl iX11 (by decide) wm_t1072 rfl rfl dX11_fair_104 ?_
        refine lv_iload_n hx hb dX11_fair_107 rfl (lv_at hl 3 rfl) ?_
        refine lv_aload_n hx hb dX11_fair_108 rfl (lv_at hl 0 rfl) ?_
        refine r_get (k := 55) (v := .ref (ea E 34)) C hP oM_0 rfl iX11 (by decide) wm_t1072 rfl rfl dX11_fair_109 ?_
        refine lv_iload_n hx hb dX11_fair_112 rfl (lv_at hl 3 rfl) ?_
        have h9 := (rdK_e hf).1
        refine r_ald C hP aM_34 h9 dX11_fair_113 ?_
        refine lv_topi (fun v8 ev8 => ?_)
        replace hf := rdK_n ev8 hf
        refine lv_iconst (v := 1) hx hb dX11_fair_114 (by decide) ?_
        refine lv_iload hx hb dX11_fair_115 (lv_at hl 4 rfl) ?_
        refine lv_ishl hx hb dX11_fair_117 ?_
        refine lv_ior hx hb dX11_fair_118 ?_
        obtain ⟨h11, σ10, eσ10, hf⟩ := wrK_e hf
        refine r_ast C hP hS aM_34 h11 dX11_fair_119 (fun H locs hP hS => ?_)
        rw [← eσ10] at hP
        refine lv_iinc (v := (x4 + 1)) (lv' := [(4, .int (x4 + 1)), (0, .ref (ea E 0)), (1, .int x1), (2, .int x2), (3, .int x3)]) hx hb dX11_fair_120 hl (k := 4) rfl rfl (by decide) rfl (fun ls hl => ?_)
        refine lv_goto (tgt := 69) hx hb dX11_fair_123 (by decide) ?_
        exact hr69 σ10 x1 x2 x3 (x4 + 1) hf H locs ls hP hS (lv_sub hl [1, 2, 3, 4, 0] rfl)
def fX11_fair_69 (rec52 : St → Int32 → Int32 → Int32 → Option (Int32 × St)) : Nat → St → Int32 → Int32 → Int32 → Int32 → Option (Int32 × St)
  | 0 => fun _ _ _ _ _ => none
  | n + 1 => fun σ x1 x2 x3 x4 => fX11_fair_69B rec52 (fX11_fair_69 rec52 n) σ x1 x2 x3 x4
theorem b_fX11_fair_69 {E : Ev} {l : Launch} {p : Program} {e : Env} {s : State} {m : MethodId} {args : Array Value} {below : List Frame} {meth : Method} {c : Code} (C : CX false E RX11 cX11_fair 5 (some .int) p s m args meth c) {rr : Int32} {sr : St} (rec52 : St → Int32 → Int32 → Int32 → Option (Int32 × St)) (hr52 : ∀ (σ : St) (x1 : Int32) (x2 : Int32) (x3 : Int32), rec52 σ x1 x2 x3 = some (rr, sr) → GW false l (rmD 3) E 5 p e s m args below meth c (MQ below (QI false E rr sr s.heap.size) args s 0 0 (aW false E s.heap.size)) σ 52 [(0, .ref (ea E 0)), (1, .int x1), (2, .int x2), (3, .int x3)] []) : ∀ (n : Nat) (σ : St) (x1 : Int32) (x2 : Int32) (x3 : Int32) (x4 : Int32), fX11_fair_69 rec52 n σ x1 x2 x3 x4 = some (rr, sr) → GW false l (rmD 3) E 5 p e s m args below meth c (MQ below (QI false E rr sr s.heap.size) args s 0 0 (aW false E s.heap.size)) σ 69 [(0, .ref (ea E 0)), (1, .int x1), (2, .int x2), (3, .int x3), (4, .int x4)] [] := by
  intro n
  induction n with
  | zero => intro σ x1 x2 x3 x4 hf; have hf : (none : Option _) = some _ := hf; cases hf
  | succ n ih => intro σ x1 x2 x3 x4 hf; exact b_fX11_fair_69B C rec52 hr52 (fX11_fair_69 rec52 n) ih σ x1 x2 x3 x4 hf
def fX11_fair_52B (rec52 : St → Int32 → Int32 → Int32 → Option (Int32 × St)) (σ : St) (x1 : Int32) (x2 : Int32) (x3 : Int32) : Option (Int32 × St) :=
(if 256 ≤ x3 then
fX11_fair_137 FU σ x2 (-1) 0
else
(wrK 256 σ 34 x3 0 fun σ2 =>
fX11_fair_69 rec52 FU σ2 x1 x2 x3 0))
set_option maxHeartbeats 4000000 in
theorem b_fX11_fair_52B {E : Ev} {l : Launch} {p : Program} {e : Env} {s : State} {m : MethodId} {args : Array Value} {below : List Frame} {meth : Method} {c : Code} (C : CX false E RX11 cX11_fair 5 (some .int) p s m args meth c) {rr : Int32} {sr : St} (rec52 : St → Int32 → Int32 → Int32 → Option (Int32 × St)) (hr52 : ∀ (σ : St) (x1 : Int32) (x2 : Int32) (x3 : Int32), rec52 σ x1 x2 x3 = some (rr, sr) → GW false l (rmD 3) E 5 p e s m args below meth c (MQ below (QI false E rr sr s.heap.size) args s 0 0 (aW false E s.heap.size)) σ 52 [(0, .ref (ea E 0)), (1, .int x1), (2, .int x2), (3, .int x3)] []) : ∀ (σ : St) (x1 : Int32) (x2 : Int32) (x3 : Int32), fX11_fair_52B rec52 σ x1 x2 x3 = some (rr, sr) → GW false l (rmD 3) E 5 p e s m args below meth c (MQ below (QI false E rr sr s.heap.size) args s 0 0 (aW false E s.heap.size)) σ 52 [(0, .ref (ea E 0)), (1, .int x1), (2, .int x2), (3, .int x3)] [] := by
  intro σ x1 x2 x3 hf H locs ls hP hS hl
  obtain ⟨hx, hb, hr, hml, hown, hts, hlocks, hK, hX, hj⟩ := id C
  unfold fX11_fair_52B at hf
  refine lv_iload_n hx hb dX11_fair_52 rfl (lv_at hl 3 rfl) ?_
  refine lv_sipush (v := 256) hx hb dX11_fair_53 (by decide) ?_
  refine lv_icmp_ge (tgt := 132) hx hb dX11_fair_56 (by decide) (fun c1 => ?_) (fun c1 => ?_)
  · replace hf := it_t c1 hf
    refine lv_iconst (v := (-1)) hx hb dX11_fair_132 (by decide) ?_
    refine lv_istore_n (lv' := [(3, .int (-1)), (0, .ref (ea E 0)), (1, .int x1), (2, .int x2)]) hx hb dX11_fair_133 rfl hl (by decide) rfl (fun ls hl => ?_)
    refine lv_iconst (v := 0) hx hb dX11_fair_134 (by decide) ?_
    refine lv_istore (lv' := [(4, .int 0), (3, .int (-1)), (0, .ref (ea E 0)), (1, .int x1), (2, .int x2)]) hx hb dX11_fair_135 hl (by decide) rfl (fun ls hl => ?_)
    exact b_fX11_fair_137 C FU σ x2 (-1) 0 hf H locs ls hP hS (lv_sub hl [2, 4, 1, 0] rfl)
  · replace hf := it_f c1 hf
    refine lv_aload_n hx hb dX11_fair_59 rfl (lv_at hl 0 rfl) ?_
    refine r_get (k := 55) (v := .ref (ea E 34)) C hP oM_0 rfl iX11 (by decide) wm_t1072 rfl rfl dX11_fair_60 ?_
    refine lv_iload_n hx hb dX11_fair_63 rfl (lv_at hl 3 rfl) ?_
    refine lv_iconst (v := 0) hx hb dX11_fair_64 (by decide) ?_
    obtain ⟨h3, σ2, eσ2, hf⟩ := wrK_e hf
    refine r_ast C hP hS aM_34 h3 dX11_fair_65 (fun H locs hP hS => ?_)
    rw [← eσ2] at hP
    refine lv_iconst (v := 0) hx hb dX11_fair_66 (by decide) ?_
    refine lv_istore (lv' := [(4, .int 0), (0, .ref (ea E 0)), (1, .int x1), (2, .int x2), (3, .int x3)]) hx hb dX11_fair_67 hl (by decide) rfl (fun ls hl => ?_)
    exact b_fX11_fair_69 C rec52 hr52 FU σ2 x1 x2 x3 0 hf H locs ls hP hS (lv_sub hl [1, 2, 3, 4, 0] rfl)
def fX11_fair_52 : Nat → St → Int32 → Int32 → Int32 → Option (Int32 × St)
  | 0 => fun _ _ _ _ => none
  | n + 1 => fun σ x1 x2 x3 => fX11_fair_52B (fX11_fair_52 n) σ x1 x2 x3
theorem b_fX11_fair_52 {E : Ev} {l : Launch} {p : Program} {e : Env} {s : State} {m : MethodId} {args : Array Value} {below : List Frame} {meth : Method} {c : Code} (C : CX false E RX11 cX11_fair 5 (some .int) p s m args meth c) {rr : Int32} {sr : St} : ∀ (n : Nat) (σ : St) (x1 : Int32) (x2 : Int32) (x3 : Int32), fX11_fair_52 n σ x1 x2 x3 = some (rr, sr) → GW false l (rmD 3) E 5 p e s m args below meth c (MQ below (QI false E rr sr s.heap.size) args s 0 0 (aW false E s.heap.size)) σ 52 [(0, .ref (ea E 0)), (1, .int x1), (2, .int x2), (3, .int x3)] [] := by
  intro n
  induction n with
  | zero => intro σ x1 x2 x3 hf; have hf : (none : Option _) = some _ := hf; cases hf
  | succ n ih => intro σ x1 x2 x3 hf; exact b_fX11_fair_52B C (fX11_fair_52 n) ih σ x1 x2 x3 hf
def fX11_fair_22B (rec22 : St → Int32 → Int32 → Int32 → Option (Int32 × St)) (σ : St) (x1 : Int32) (x2 : Int32) (x3 : Int32) : Option (Int32 × St) :=
(if 8 ≤ x3 then
fX11_fair_52 FU σ x1 x2 0
else
(rdK 8 (σ 33) x3 fun v2 =>
(if v2 = (-1) then
rec22 σ x1 x2 (x3 + 1)
else
rec22 σ x1 (x2 ||| (1 <<< (x3 &&& 31))) (x3 + 1))))
set_option maxHeartbeats 4000000 in
theorem b_fX11_fair_22B {E : Ev} {l : Launch} {p : Program} {e : Env} {s : State} {m : MethodId} {args : Array Value} {below : List Frame} {meth : Method} {c : Code} (C : CX false E RX11 cX11_fair 5 (some .int) p s m args meth c) {rr : Int32} {sr : St} (rec22 : St → Int32 → Int32 → Int32 → Option (Int32 × St)) (hr22 : ∀ (σ : St) (x1 : Int32) (x2 : Int32) (x3 : Int32), rec22 σ x1 x2 x3 = some (rr, sr) → GW false l (rmD 3) E 5 p e s m args below meth c (MQ below (QI false E rr sr s.heap.size) args s 0 0 (aW false E s.heap.size)) σ 22 [(0, .ref (ea E 0)), (1, .int x1), (2, .int x2), (3, .int x3)] []) : ∀ (σ : St) (x1 : Int32) (x2 : Int32) (x3 : Int32), fX11_fair_22B rec22 σ x1 x2 x3 = some (rr, sr) → GW false l (rmD 3) E 5 p e s m args below meth c (MQ below (QI false E rr sr s.heap.size) args s 0 0 (aW false E s.heap.size)) σ 22 [(0, .ref (ea E 0)), (1, .int x1), (2, .int x2), (3, .int x3)] [] := by
  intro σ x1 x2 x3 hf H locs ls hP hS hl
  obtain ⟨hx, hb, hr, hml, hown, hts, hlocks, hK, hX, hj⟩ := id C
  unfold fX11_fair_22B at hf
  refine lv_iload_n hx hb dX11_fair_22 rfl (lv_at hl 3 rfl) ?_
  refine lv_bipush (v := 8) hx hb dX11_fair_23 (by decide) ?_
  refine lv_icmp_ge (tgt := 50) hx hb dX11_fair_25 (by decide) (fun c1 => ?_) (fun c1 => ?_)
  · replace hf := it_t c1 hf
    refine lv_iconst (v := 0) hx hb dX11_fair_50 (by decide) ?_
    refine lv_istore_n (lv' := [(3, .int 0), (0, .ref (ea E 0)), (1, .int x1), (2, .int x2)]) hx hb dX11_fair_51 rfl hl (by decide) rfl (fun ls hl => ?_)
    exact b_fX11_fair_52 C FU σ x1 x2 0 hf H locs ls hP hS (lv_sub hl [1, 2, 3, 0] rfl)
  · replace hf := it_f c1 hf
    refine lv_aload_n hx hb dX11_fair_28 rfl (lv_at hl 0 rfl) ?_
    refine r_get (k := 54) (v := .ref (ea E 33)) C hP oM_0 rfl iX11 (by decide) wm_t1071 rfl rfl dX11_fair_29 ?_
    refine lv_iload_n hx hb dX11_fair_32 rfl (lv_at hl 3 rfl) ?_
    have h3 := (rdK_e hf).1
    refine r_ald C hP aM_33 h3 dX11_fair_33 ?_
    refine lv_topi (fun v2 ev2 => ?_)
    replace hf := rdK_n ev2 hf
    refine lv_iconst (v := (-1)) hx hb dX11_fair_34 (by decide) ?_
    refine lv_icmp_eq (tgt := 44) hx hb dX11_fair_35 (by decide) (fun c4 => ?_) (fun c4 => ?_)
    · replace hf := it_t c4 hf
      refine lv_iinc (v := (x3 + 1)) (lv' := [(3, .int (x3 + 1)), (0, .ref (ea E 0)), (1, .int x1), (2, .int x2)]) hx hb dX11_fair_44 hl (k := 3) rfl rfl (by decide) rfl (fun ls hl => ?_)
      refine lv_goto (tgt := 22) hx hb dX11_fair_47 (by decide) ?_
      exact hr22 σ x1 x2 (x3 + 1) hf H locs ls hP hS (lv_sub hl [1, 2, 3, 0] rfl)
    · replace hf := it_f c4 hf
      refine lv_iload_n hx hb dX11_fair_38 rfl (lv_at hl 2 rfl) ?_
      refine lv_iconst (v := 1) hx hb dX11_fair_39 (by decide) ?_
      refine lv_iload_n hx hb dX11_fair_40 rfl (lv_at hl 3 rfl) ?_
      refine lv_ishl hx hb dX11_fair_41 ?_
      refine lv_ior hx hb dX11_fair_42 ?_
      refine lv_istore_n (lv' := [(2, .int (x2 ||| (1 <<< (x3 &&& 31)))), (0, .ref (ea E 0)), (1, .int x1), (3, .int x3)]) hx hb dX11_fair_43 rfl hl (by decide) rfl (fun ls hl => ?_)
      refine lv_iinc (v := (x3 + 1)) (lv' := [(3, .int (x3 + 1)), (2, .int (x2 ||| (1 <<< (x3 &&& 31)))), (0, .ref (ea E 0)), (1, .int x1)]) hx hb dX11_fair_44 hl (k := 3) rfl rfl (by decide) rfl (fun ls hl => ?_)
      refine lv_goto (tgt := 22) hx hb dX11_fair_47 (by decide) ?_
      exact hr22 σ x1 (x2 ||| (1 <<< (x3 &&& 31))) (x3 + 1) hf H locs ls hP hS (lv_sub hl [2, 3, 1, 0] rfl)
def fX11_fair_22 : Nat → St → Int32 → Int32 → Int32 → Option (Int32 × St)
  | 0 => fun _ _ _ _ => none
  | n + 1 => fun σ x1 x2 x3 => fX11_fair_22B (fX11_fair_22 n) σ x1 x2 x3
theorem b_fX11_fair_22 {E : Ev} {l : Launch} {p : Program} {e : Env} {s : State} {m : MethodId} {args : Array Value} {below : List Frame} {meth : Method} {c : Code} (C : CX false E RX11 cX11_fair 5 (some .int) p s m args meth c) {rr : Int32} {sr : St} : ∀ (n : Nat) (σ : St) (x1 : Int32) (x2 : Int32) (x3 : Int32), fX11_fair_22 n σ x1 x2 x3 = some (rr, sr) → GW false l (rmD 3) E 5 p e s m args below meth c (MQ below (QI false E rr sr s.heap.size) args s 0 0 (aW false E s.heap.size)) σ 22 [(0, .ref (ea E 0)), (1, .int x1), (2, .int x2), (3, .int x3)] [] := by
  intro n
  induction n with
  | zero => intro σ x1 x2 x3 hf; have hf : (none : Option _) = some _ := hf; cases hf
  | succ n ih => intro σ x1 x2 x3 hf; exact b_fX11_fair_22B C (fX11_fair_22 n) ih σ x1 x2 x3 hf
def fX11_fair (σ : St) (a0 : Int32) : Option (Int32 × St) :=
(nmS (st_put σ 0 0 0) fun σ1 =>
(if (fX11_isIn a0 0 20) = 0 then
some ((-1), σ1)
else
fX11_fair_22 FU σ1 a0 0 0))
set_option maxHeartbeats 4000000 in
theorem c_fX11_fair {E : Ev} {l : Launch} (hj : jW false E) (σ : St) (sz : Nat) (a0 : Int32) {rr : Int32} {sr : St} (hf : fX11_fair σ a0 = some (rr, sr)) : Met l yX11_fair (Cond.code yX11_fair cX11_fair 5 (some .int) :: gT) (rmD 3) (va_Pc [.ref (ea E 0), .int a0] (preW false E σ sz)) (QI false E rr sr sz) 0 0 (aW false E sz) := by
  refine r_entry (QI false E rr sr) hj (by decide) [.ref (ea E 0), .int a0] (Nat.le_of_ble_eq_true rfl) (fun p e s m args below meth c C => ?_)
  intro H locs ls hP hS hl
  have hl : lv_has ls 5 [(0, .ref (ea E 0)), (1, .int a0)] := hl
  obtain ⟨hx, hb, hr, hml, hown, hts, hlocks, hK, hX, hj⟩ := id C
  unfold fX11_fair at hf
  refine lv_aload_n hx hb dX11_fair_0 rfl (lv_at hl 0 rfl) ?_
  refine lv_iconst (v := 0) hx hb dX11_fair_1 (by decide) ?_
  refine r_put (k := 0) (x := 0) C hP hS tyX11 tyX11_ok nmX11 oM_0 rfl iX11 (by decide) wm_t1017 rfl rfl sM_0_0 rfl rfl (Nat.le_of_ble_eq_true rfl) dX11_fair_2 (fun H locs hP hS => ?_)
  obtain ⟨σ1, eσ1, hf⟩ := nmS_e hf
  rw [← eσ1] at hP
  refine lv_aload_n hx hb dX11_fair_5 rfl (lv_at hl 0 rfl) ?_
  refine lv_iload_n hx hb dX11_fair_6 rfl (lv_at hl 1 rfl) ?_
  refine lv_iconst (v := 0) hx hb dX11_fair_7 (by decide) ?_
  refine lv_bipush (v := 20) hx hb dX11_fair_8 (by decide) ?_
  refine r_cVi (n := 3) (As := [.int a0, .int 0, .int 20]) (rest := []) C (c_fX11_isIn hj σ1 H.size a0 0 20) oM_0 rfl gv_RX11_144 (by decide +kernel) (rmD_le (by decide) (by decide)) rfl rfl (Nat.le_of_ble_eq_true rfl) dX11_fair_10 hP hS hl.1 (fun H locs hP hS => ?_)
  refine lv_if_ne (tgt := 18) hx hb dX11_fair_13 (by decide) (fun c2 => ?_) (fun c2 => ?_)
  · replace hf := it_f c2 hf
    refine lv_iconst (v := 0) hx hb dX11_fair_18 (by decide) ?_
    refine lv_istore_n (lv' := [(2, .int 0), (0, .ref (ea E 0)), (1, .int a0)]) hx hb dX11_fair_19 rfl hl (by decide) rfl (fun ls hl => ?_)
    refine lv_iconst (v := 0) hx hb dX11_fair_20 (by decide) ?_
    refine lv_istore_n (lv' := [(3, .int 0), (2, .int 0), (0, .ref (ea E 0)), (1, .int a0)]) hx hb dX11_fair_21 rfl hl (by decide) rfl (fun ls hl => ?_)
    exact b_fX11_fair_22 C FU σ1 a0 0 0 hf H locs ls hP hS (lv_sub hl [2, 3, 1, 0] rfl)
  · replace hf := it_t c2 hf
    refine lv_iconst (v := (-1)) hx hb dX11_fair_16 (by decide) ?_
    cases hf
    exact r_iret C hP hS dX11_fair_17
def fX11_isSo_41 (rec3 : St → Int32 → Int32 → Int32 → Option (Int32 × St)) (σ : St) (x1 : Int32) (x2 : Int32) (x3 : Int32) : Option (Int32 × St) :=
(rdK 48 (σ 19) x3 fun v1 =>
(rdK 48 (σ 20) x3 fun v3 =>
(cb (fX11_worth σ 1 v1 v3) fun r5 σ7 =>
(if r5 = 0 then
rec3 σ7 x1 x2 (x3 + 1)
else
some (1, σ7)))))
set_option maxHeartbeats 4000000 in
theorem b_fX11_isSo_41 {E : Ev} {l : Launch} {p : Program} {e : Env} {s : State} {m : MethodId} {args : Array Value} {below : List Frame} {meth : Method} {c : Code} (C : CX false E RX11 cX11_isSo 4 (some .boolean) p s m args meth c) {rr : Int32} {sr : St} (rec3 : St → Int32 → Int32 → Int32 → Option (Int32 × St)) (hr3 : ∀ (σ : St) (x1 : Int32) (x2 : Int32) (x3 : Int32), rec3 σ x1 x2 x3 = some (rr, sr) → GW false l (rmD 3) E 4 p e s m args below meth c (MQ below (QI false E rr sr s.heap.size) args s 0 0 (aW false E s.heap.size)) σ 3 [(0, .ref (ea E 0)), (1, .int x1), (2, .int x2), (3, .int x3)] []) : ∀ (σ : St) (x1 : Int32) (x2 : Int32) (x3 : Int32), fX11_isSo_41 rec3 σ x1 x2 x3 = some (rr, sr) → GW false l (rmD 3) E 4 p e s m args below meth c (MQ below (QI false E rr sr s.heap.size) args s 0 0 (aW false E s.heap.size)) σ 41 [(0, .ref (ea E 0)), (1, .int x1), (2, .int x2), (3, .int x3)] [] := by
  intro σ x1 x2 x3 hf H locs ls hP hS hl
  obtain ⟨hx, hb, hr, hml, hown, hts, hlocks, hK, hX, hj⟩ := id C
  unfold fX11_isSo_41 at hf
  refine lv_aload_n hx hb dX11_isSo_41 rfl (lv_at hl 0 rfl) ?_
  refine lv_iconst (v := 1) hx hb dX11_isSo_42 (by decide) ?_
  refine lv_aload_n hx hb dX11_isSo_43 rfl (lv_at hl 0 rfl) ?_
  refine r_get (k := 28) (v := .ref (ea E 19)) C hP oM_0 rfl iX11 (by decide) wm_t1045 rfl rfl dX11_isSo_44 ?_
  refine lv_iload_n hx hb dX11_isSo_47 rfl (lv_at hl 3 rfl) ?_
  have h2 := (rdK_e hf).1
  refine r_ald C hP aM_19 h2 dX11_isSo_48 ?_
  refine lv_topi (fun v1 ev1 => ?_)
  replace hf := rdK_n ev1 hf
  refine lv_aload_n hx hb dX11_isSo_49 rfl (lv_at hl 0 rfl) ?_
  refine r_get (k := 29) (v := .ref (ea E 20)) C hP oM_0 rfl iX11 (by decide) wm_t1046 rfl rfl dX11_isSo_50 ?_
  refine lv_iload_n hx hb dX11_isSo_53 rfl (lv_at hl 3 rfl) ?_
  have h4 := (rdK_e hf).1
  refine r_ald C hP aM_20 h4 dX11_isSo_54 ?_
  refine lv_topi (fun v3 ev3 => ?_)
  replace hf := rdK_n ev3 hf
  obtain ⟨r5, σ7, hc6, hf⟩ := cb_e hf
  refine r_cVi (n := 3) (As := [.int 1, .int v1, .int v3]) (rest := []) C (c_fX11_worth hj σ H.size 1 v1 v3 hc6) oM_0 rfl gv_RX11_280 (by decide +kernel) (rmD_le (by decide) (by decide)) rfl rfl (Nat.le_of_ble_eq_true rfl) dX11_isSo_55 hP hS hl.1 (fun H locs hP hS => ?_)
  refine lv_if_eq (tgt := 63) hx hb dX11_isSo_58 (by decide) (fun c8 => ?_) (fun c8 => ?_)
  · replace hf := it_t c8 hf
    refine lv_iinc (v := (x3 + 1)) (lv' := [(3, .int (x3 + 1)), (0, .ref (ea E 0)), (1, .int x1), (2, .int x2)]) hx hb dX11_isSo_63 hl (k := 3) rfl rfl (by decide) rfl (fun ls hl => ?_)
    refine lv_goto (tgt := 3) hx hb dX11_isSo_66 (by decide) ?_
    exact hr3 σ7 x1 x2 (x3 + 1) hf H locs ls hP hS (lv_sub hl [1, 2, 3, 0] rfl)
  · replace hf := it_f c8 hf
    refine lv_iconst (v := 1) hx hb dX11_isSo_61 (by decide) ?_
    cases hf
    exact r_zret C rfl hP hS dX11_isSo_62
def fX11_isSo_3B (rec3 : St → Int32 → Int32 → Int32 → Option (Int32 × St)) (σ : St) (x1 : Int32) (x2 : Int32) (x3 : Int32) : Option (Int32 × St) :=
(rdK 3 (σ 15) 1 fun v1 =>
(if (16 + v1) ≤ x3 then
some (0, σ)
else
(rdK 48 (σ 16) x3 fun v4 =>
(if v4 = x1 then
(if x2 = (-1) then
fX11_isSo_41 rec3 σ x1 x2 x3
else
(rdK 48 (σ 17) x3 fun v8 =>
(if v8 = x2 then
fX11_isSo_41 rec3 σ x1 x2 x3
else
rec3 σ x1 x2 (x3 + 1))))
else
rec3 σ x1 x2 (x3 + 1)))))
set_option maxHeartbeats 4000000 in
theorem b_fX11_isSo_3B {E : Ev} {l : Launch} {p : Program} {e : Env} {s : State} {m : MethodId} {args : Array Value} {below : List Frame} {meth : Method} {c : Code} (C : CX false E RX11 cX11_isSo 4 (some .boolean) p s m args meth c) {rr : Int32} {sr : St} (rec3 : St → Int32 → Int32 → Int32 → Option (Int32 × St)) (hr3 : ∀ (σ : St) (x1 : Int32) (x2 : Int32) (x3 : Int32), rec3 σ x1 x2 x3 = some (rr, sr) → GW false l (rmD 3) E 4 p e s m args below meth c (MQ below (QI false E rr sr s.heap.size) args s 0 0 (aW false E s.heap.size)) σ 3 [(0, .ref (ea E 0)), (1, .int x1), (2, .int x2), (3, .int x3)] []) : ∀ (σ : St) (x1 : Int32) (x2 : Int32) (x3 : Int32), fX11_isSo_3B rec3 σ x1 x2 x3 = some (rr, sr) → GW false l (rmD 3) E 4 p e s m args below meth c (MQ below (QI false E rr sr s.heap.size) args s 0 0 (aW false E s.heap.size)) σ 3 [(0, .ref (ea E 0)), (1, .int x1), (2, .int x2), (3, .int x3)] [] := by
  intro σ x1 x2 x3 hf H locs ls hP hS hl
  obtain ⟨hx, hb, hr, hml, hown, hts, hlocks, hK, hX, hj⟩ := id C
  unfold fX11_isSo_3B at hf
  refine lv_iload_n hx hb dX11_isSo_3 rfl (lv_at hl 3 rfl) ?_
  refine lv_bipush (v := 16) hx hb dX11_isSo_4 (by decide) ?_
  refine lv_aload_n hx hb dX11_isSo_6 rfl (lv_at hl 0 rfl) ?_
  refine r_get (k := 24) (v := .ref (ea E 15)) C hP oM_0 rfl iX11 (by decide) wm_t1041 rfl rfl dX11_isSo_7 ?_
  refine lv_iconst (v := 1) hx hb dX11_isSo_10 (by decide) ?_
  have h2 := (rdK_e hf).1
  refine r_ald C hP aM_15 h2 dX11_isSo_11 ?_
  refine lv_topi (fun v1 ev1 => ?_)
  replace hf := rdK_n ev1 hf
  refine lv_iadd hx hb dX11_isSo_12 ?_
  refine lv_icmp_ge (tgt := 69) hx hb dX11_isSo_13 (by decide) (fun c3 => ?_) (fun c3 => ?_)
  · replace hf := it_t c3 hf
    refine lv_iconst (v := 0) hx hb dX11_isSo_69 (by decide) ?_
    cases hf
    exact r_zret C rfl hP hS dX11_isSo_70
  · replace hf := it_f c3 hf
    refine lv_aload_n hx hb dX11_isSo_16 rfl (lv_at hl 0 rfl) ?_
    refine r_get (k := 25) (v := .ref (ea E 16)) C hP oM_0 rfl iX11 (by decide) wm_t1042 rfl rfl dX11_isSo_17 ?_
    refine lv_iload_n hx hb dX11_isSo_20 rfl (lv_at hl 3 rfl) ?_
    have h5 := (rdK_e hf).1
    refine r_ald C hP aM_16 h5 dX11_isSo_21 ?_
    refine lv_topi (fun v4 ev4 => ?_)
    replace hf := rdK_n ev4 hf
    refine lv_iload_n hx hb dX11_isSo_22 rfl (lv_at hl 1 rfl) ?_
    refine lv_icmp_ne (tgt := 63) hx hb dX11_isSo_23 (by decide) (fun c6 => ?_) (fun c6 => ?_)
    · replace hf := it_f c6 hf
      refine lv_iinc (v := (x3 + 1)) (lv' := [(3, .int (x3 + 1)), (0, .ref (ea E 0)), (1, .int x1), (2, .int x2)]) hx hb dX11_isSo_63 hl (k := 3) rfl rfl (by decide) rfl (fun ls hl => ?_)
      refine lv_goto (tgt := 3) hx hb dX11_isSo_66 (by decide) ?_
      exact hr3 σ x1 x2 (x3 + 1) hf H locs ls hP hS (lv_sub hl [1, 2, 3, 0] rfl)
    · replace hf := it_t c6 hf
      refine lv_iload_n hx hb dX11_isSo_26 rfl (lv_at hl 2 rfl) ?_
      refine lv_iconst (v := (-1)) hx hb dX11_isSo_27 (by decide) ?_
      refine lv_icmp_eq (tgt := 41) hx hb dX11_isSo_28 (by decide) (fun c7 => ?_) (fun c7 => ?_)
      · replace hf := it_t c7 hf
        exact b_fX11_isSo_41 C rec3 hr3 σ x1 x2 x3 hf H locs ls hP hS (lv_sub hl [0, 1, 2, 3] rfl)
      · replace hf := it_f c7 hf
        refine lv_aload_n hx hb dX11_isSo_31 rfl (lv_at hl 0 rfl) ?_
        refine r_get (k := 26) (v := .ref (ea E 17)) C hP oM_0 rfl iX11 (by decide) wm_t1043 rfl rfl dX11_isSo_32 ?_
        refine lv_iload_n hx hb dX11_isSo_35 rfl (lv_at hl 3 rfl) ?_
        have h9 := (rdK_e hf).1
        refine r_ald C hP aM_17 h9 dX11_isSo_36 ?_
        refine lv_topi (fun v8 ev8 => ?_)
        replace hf := rdK_n ev8 hf
        refine lv_iload_n hx hb dX11_isSo_37 rfl (lv_at hl 2 rfl) ?_
        refine lv_icmp_ne (tgt := 63) hx hb dX11_isSo_38 (by decide) (fun c10 => ?_) (fun c10 => ?_)
        · replace hf := it_f c10 hf
          refine lv_iinc (v := (x3 + 1)) (lv' := [(3, .int (x3 + 1)), (0, .ref (ea E 0)), (1, .int x1), (2, .int x2)]) hx hb dX11_isSo_63 hl (k := 3) rfl rfl (by decide) rfl (fun ls hl => ?_)
          refine lv_goto (tgt := 3) hx hb dX11_isSo_66 (by decide) ?_
          exact hr3 σ x1 x2 (x3 + 1) hf H locs ls hP hS (lv_sub hl [1, 2, 3, 0] rfl)
        · replace hf := it_t c10 hf
          exact b_fX11_isSo_41 C rec3 hr3 σ x1 x2 x3 hf H locs ls hP hS (lv_sub hl [0, 1, 2, 3] rfl)
def fX11_isSo_3 : Nat → St → Int32 → Int32 → Int32 → Option (Int32 × St)
  | 0 => fun _ _ _ _ => none
  | n + 1 => fun σ x1 x2 x3 => fX11_isSo_3B (fX11_isSo_3 n) σ x1 x2 x3
theorem b_fX11_isSo_3 {E : Ev} {l : Launch} {p : Program} {e : Env} {s : State} {m : MethodId} {args : Array Value} {below : List Frame} {meth : Method} {c : Code} (C : CX false E RX11 cX11_isSo 4 (some .boolean) p s m args meth c) {rr : Int32} {sr : St} : ∀ (n : Nat) (σ : St) (x1 : Int32) (x2 : Int32) (x3 : Int32), fX11_isSo_3 n σ x1 x2 x3 = some (rr, sr) → GW false l (rmD 3) E 4 p e s m args below meth c (MQ below (QI false E rr sr s.heap.size) args s 0 0 (aW false E s.heap.size)) σ 3 [(0, .ref (ea E 0)), (1, .int x1), (2, .int x2), (3, .int x3)] [] := by
  intro n
  induction n with
  | zero => intro σ x1 x2 x3 hf; have hf : (none : Option _) = some _ := hf; cases hf
  | succ n ih => intro σ x1 x2 x3 hf; exact b_fX11_isSo_3B C (fX11_isSo_3 n) ih σ x1 x2 x3 hf
def fX11_isSo (σ : St) (a0 : Int32) (a1 : Int32) : Option (Int32 × St) :=
fX11_isSo_3 FU σ a0 a1 16
set_option maxHeartbeats 4000000 in
theorem c_fX11_isSo {E : Ev} {l : Launch} (hj : jW false E) (σ : St) (sz : Nat) (a0 : Int32) (a1 : Int32) {rr : Int32} {sr : St} (hf : fX11_isSo σ a0 a1 = some (rr, sr)) : Met l yX11_isSo (Cond.code yX11_isSo cX11_isSo 4 (some .boolean) :: gT) (rmD 3) (va_Pc [.ref (ea E 0), .int a0, .int a1] (preW false E σ sz)) (QI false E rr sr sz) 0 0 (aW false E sz) := by
  refine r_entry (QI false E rr sr) hj (by decide) [.ref (ea E 0), .int a0, .int a1] (Nat.le_of_ble_eq_true rfl) (fun p e s m args below meth c C => ?_)
  intro H locs ls hP hS hl
  have hl : lv_has ls 4 [(0, .ref (ea E 0)), (1, .int a0), (2, .int a1)] := hl
  obtain ⟨hx, hb, hr, hml, hown, hts, hlocks, hK, hX, hj⟩ := id C
  unfold fX11_isSo at hf
  refine lv_bipush (v := 16) hx hb dX11_isSo_0 (by decide) ?_
  refine lv_istore_n (lv' := [(3, .int 16), (0, .ref (ea E 0)), (1, .int a0), (2, .int a1)]) hx hb dX11_isSo_2 rfl hl (by decide) rfl (fun ls hl => ?_)
  exact b_fX11_isSo_3 C FU σ a0 a1 16 hf H locs ls hP hS (lv_sub hl [1, 2, 3, 0] rfl)
def fX11_may_207 (σ : St) (x1 : Int32) (x2 : Int32) (y0 : Int32) (y1 : Int32) : Option (Int32 × St) :=
(wrK 16 σ 24 y1 y0 fun σ1 =>
(cb (fX11_isSo σ1 (4 + x2) x1) fun r3 σ5 =>
(if r3 = 0 then
some (0, σ5)
else
some (1, σ5))))
set_option maxHeartbeats 4000000 in
theorem b_fX11_may_207 {E : Ev} {l : Launch} {p : Program} {e : Env} {s : State} {m : MethodId} {args : Array Value} {below : List Frame} {meth : Method} {c : Code} (C : CX false E RX11 cX11_may 4 (some .int) p s m args meth c) {rr : Int32} {sr : St} : ∀ (σ : St) (x1 : Int32) (x2 : Int32) (y0 : Int32) (y1 : Int32), fX11_may_207 σ x1 x2 y0 y1 = some (rr, sr) → GW false l (rmD 4) E 4 p e s m args below meth c (MQ below (QI false E rr sr s.heap.size) args s 0 0 (aW false E s.heap.size)) σ 207 [(0, .ref (ea E 0)), (1, .int x1), (2, .int x2)] [.int y0, .int y1, .ref (ea E 24)] := by
  intro σ x1 x2 y0 y1 hf H locs ls hP hS hl
  obtain ⟨hx, hb, hr, hml, hown, hts, hlocks, hK, hX, hj⟩ := id C
  unfold fX11_may_207 at hf
  obtain ⟨h2, σ1, eσ1, hf⟩ := wrK_e hf
  refine r_ast C hP hS aM_24 h2 dX11_may_207 (fun H locs hP hS => ?_)
  rw [← eσ1] at hP
  refine lv_aload_n hx hb dX11_may_208 rfl (lv_at hl 0 rfl) ?_
  refine lv_iconst (v := 4) hx hb dX11_may_209 (by decide) ?_
  refine lv_iload_n hx hb dX11_may_210 rfl (lv_at hl 2 rfl) ?_
  refine lv_iadd hx hb dX11_may_211 ?_
  refine lv_iload_n hx hb dX11_may_212 rfl (lv_at hl 1 rfl) ?_
  obtain ⟨r3, σ5, hc4, hf⟩ := cb_e hf
  refine r_cVi (n := 2) (As := [.int (4 + x2), .int x1]) (rest := []) C (c_fX11_isSo hj σ1 H.size (4 + x2) x1 hc4) oM_0 rfl gv_RX11_388 (by decide +kernel) (rmD_le (by decide) (by decide)) rfl rfl (Nat.le_of_ble_eq_true rfl) dX11_may_213 hP hS hl.1 (fun H locs hP hS => ?_)
  refine lv_if_eq (tgt := 223) hx hb dX11_may_216 (by decide) (fun c6 => ?_) (fun c6 => ?_)
  · replace hf := it_t c6 hf
    refine lv_iconst (v := 0) hx hb dX11_may_223 (by decide) ?_
    cases hf
    exact r_iret C hP hS dX11_may_224
  · replace hf := it_f c6 hf
    refine lv_iconst (v := 1) hx hb dX11_may_219 (by decide) ?_
    refine lv_goto (tgt := 224) hx hb dX11_may_220 (by decide) ?_
    cases hf
    exact r_iret C hP hS dX11_may_224
def fX11_may_126 (σ : St) (x1 : Int32) (x2 : Int32) (y0 : Int32) (y1 : Int32) : Option (Int32 × St) :=
(wrK 16 σ 24 y1 y0 fun σ1 =>
(rdK 30 (σ1 1) ((σ1 0 1) / 24) fun v3 =>
(wrK 16 σ1 24 5 v3 fun σ5 =>
(wrK 16 σ5 24 12 ((σ5 0 1) / 24) fun σ7 =>
(cq (fX11_loaded σ7) fun r9 =>
(wrK 16 σ7 24 13 r9 fun σ11 =>
(rdK 30 (σ11 2) ((σ11 0 1) / 24) fun v13 =>
(wrK 16 σ11 24 14 v13 fun σ15 =>
(if (σ15 0 13) = 0 then
fX11_may_207 σ15 x1 x2 1 15
else
fX11_may_207 σ15 x1 x2 0 15)))))))))
set_option maxHeartbeats 4000000 in
theorem b_fX11_may_126 {E : Ev} {l : Launch} {p : Program} {e : Env} {s : State} {m : MethodId} {args : Array Value} {below : List Frame} {meth : Method} {c : Code} (C : CX false E RX11 cX11_may 4 (some .int) p s m args meth c) {rr : Int32} {sr : St} : ∀ (σ : St) (x1 : Int32) (x2 : Int32) (y0 : Int32) (y1 : Int32), fX11_may_126 σ x1 x2 y0 y1 = some (rr, sr) → GW false l (rmD 4) E 4 p e s m args below meth c (MQ below (QI false E rr sr s.heap.size) args s 0 0 (aW false E s.heap.size)) σ 126 [(0, .ref (ea E 0)), (1, .int x1), (2, .int x2)] [.int y0, .int y1, .ref (ea E 24)] := by
  intro σ x1 x2 y0 y1 hf H locs ls hP hS hl
  obtain ⟨hx, hb, hr, hml, hown, hts, hlocks, hK, hX, hj⟩ := id C
  unfold fX11_may_126 at hf
  obtain ⟨h2, σ1, eσ1, hf⟩ := wrK_e hf
  refine r_ast C hP hS aM_24 h2 dX11_may_126 (fun H locs hP hS => ?_)
  rw [← eσ1] at hP
  refine lv_aload_n hx hb dX11_may_127 rfl (lv_at hl 0 rfl) ?_
  refine r_get (k := 41) (v := .ref (ea E 24)) C hP oM_0 rfl iX11 (by decide) wm_t1058 rfl rfl dX11_may_128 ?_
  refine lv_iconst (v := 5) hx hb dX11_may_131 (by decide) ?_
  refine lv_aload_n hx hb dX11_may_132 rfl (lv_at hl 0 rfl) ?_
  refine r_get (k := 3) (v := .ref (ea E 1)) C hP oM_0 rfl iX11 (by decide) wm_t1020 rfl rfl dX11_may_133 ?_
  refine lv_aload_n hx hb dX11_may_136 rfl (lv_at hl 0 rfl) ?_
  refine r_get (k := 1) (v := .int (σ1 0 1)) C hP oM_0 rfl iX11 (by decide) wm_t1018 rfl rfl dX11_may_137 ?_
  refine lv_bipush (v := 24) hx hb dX11_may_140 (by decide) ?_
  refine lv_idiv hx hb dX11_may_142 (by decide) ?_
  have h4 := (rdK_e hf).1
  refine r_ald C hP aM_1 h4 dX11_may_143 ?_
  refine lv_topi (fun v3 ev3 => ?_)
  replace hf := rdK_n ev3 hf
  obtain ⟨h6, σ5, eσ5, hf⟩ := wrK_e hf
  refine r_ast C hP hS aM_24 h6 dX11_may_144 (fun H locs hP hS => ?_)
  rw [← eσ5] at hP
  refine lv_aload_n hx hb dX11_may_145 rfl (lv_at hl 0 rfl) ?_
  refine r_get (k := 41) (v := .ref (ea E 24)) C hP oM_0 rfl iX11 (by decide) wm_t1058 rfl rfl dX11_may_146 ?_
  refine lv_bipush (v := 12) hx hb dX11_may_149 (by decide) ?_
  refine lv_aload_n hx hb dX11_may_151 rfl (lv_at hl 0 rfl) ?_
  refine r_get (k := 1) (v := .int (σ5 0 1)) C hP oM_0 rfl iX11 (by decide) wm_t1018 rfl rfl dX11_may_152 ?_
  refine lv_bipush (v := 24) hx hb dX11_may_155 (by decide) ?_
  refine lv_idiv hx hb dX11_may_157 (by decide) ?_
  obtain ⟨h8, σ7, eσ7, hf⟩ := wrK_e hf
  refine r_ast C hP hS aM_24 h8 dX11_may_158 (fun H locs hP hS => ?_)
  rw [← eσ7] at hP
  refine lv_aload_n hx hb dX11_may_159 rfl (lv_at hl 0 rfl) ?_
  refine r_get (k := 41) (v := .ref (ea E 24)) C hP oM_0 rfl iX11 (by decide) wm_t1058 rfl rfl dX11_may_160 ?_
  refine lv_bipush (v := 13) hx hb dX11_may_163 (by decide) ?_
  refine lv_aload_n hx hb dX11_may_165 rfl (lv_at hl 0 rfl) ?_
  obtain ⟨r9, hc10, hf⟩ := cq_e hf
  refine r_cVi (n := 0) (As := []) (rest := [.int 13, .ref (ea E 24)]) C (c_fX11_loaded hj σ7 H.size hc10) oM_0 rfl gv_RX11_353 (by decide +kernel) (rmD_le (by decide) (by decide)) rfl rfl (Nat.le_of_ble_eq_true rfl) dX11_may_166 hP hS hl.1 (fun H locs hP hS => ?_)
  obtain ⟨h12, σ11, eσ11, hf⟩ := wrK_e hf
  refine r_ast C hP hS aM_24 h12 dX11_may_169 (fun H locs hP hS => ?_)
  rw [← eσ11] at hP
  refine lv_aload_n hx hb dX11_may_170 rfl (lv_at hl 0 rfl) ?_
  refine r_get (k := 41) (v := .ref (ea E 24)) C hP oM_0 rfl iX11 (by decide) wm_t1058 rfl rfl dX11_may_171 ?_
  refine lv_bipush (v := 14) hx hb dX11_may_174 (by decide) ?_
  refine lv_aload_n hx hb dX11_may_176 rfl (lv_at hl 0 rfl) ?_
  refine r_get (k := 4) (v := .ref (ea E 2)) C hP oM_0 rfl iX11 (by decide) wm_t1021 rfl rfl dX11_may_177 ?_
  refine lv_aload_n hx hb dX11_may_180 rfl (lv_at hl 0 rfl) ?_
  refine r_get (k := 1) (v := .int (σ11 0 1)) C hP oM_0 rfl iX11 (by decide) wm_t1018 rfl rfl dX11_may_181 ?_
  refine lv_bipush (v := 24) hx hb dX11_may_184 (by decide) ?_
  refine lv_idiv hx hb dX11_may_186 (by decide) ?_
  have h14 := (rdK_e hf).1
  refine r_ald C hP aM_2 h14 dX11_may_187 ?_
  refine lv_topi (fun v13 ev13 => ?_)
  replace hf := rdK_n ev13 hf
  obtain ⟨h16, σ15, eσ15, hf⟩ := wrK_e hf
  refine r_ast C hP hS aM_24 h16 dX11_may_188 (fun H locs hP hS => ?_)
  rw [← eσ15] at hP
  refine lv_aload_n hx hb dX11_may_189 rfl (lv_at hl 0 rfl) ?_
  refine r_get (k := 41) (v := .ref (ea E 24)) C hP oM_0 rfl iX11 (by decide) wm_t1058 rfl rfl dX11_may_190 ?_
  refine lv_bipush (v := 15) hx hb dX11_may_193 (by decide) ?_
  refine lv_aload_n hx hb dX11_may_195 rfl (lv_at hl 0 rfl) ?_
  refine r_get (k := 13) (v := .int (σ15 0 13)) C hP oM_0 rfl iX11 (by decide) wm_t1030 rfl rfl dX11_may_196 ?_
  refine lv_if_eq (tgt := 206) hx hb dX11_may_199 (by decide) (fun c17 => ?_) (fun c17 => ?_)
  · replace hf := it_t c17 hf
    refine lv_iconst (v := 1) hx hb dX11_may_206 (by decide) ?_
    exact b_fX11_may_207 C σ15 x1 x2 1 15 hf H locs ls hP hS (lv_sub hl [0, 1, 2] rfl)
  · replace hf := it_f c17 hf
    refine lv_iconst (v := 0) hx hb dX11_may_202 (by decide) ?_
    refine lv_goto (tgt := 207) hx hb dX11_may_203 (by decide) ?_
    exact b_fX11_may_207 C σ15 x1 x2 0 15 hf H locs ls hP hS (lv_sub hl [0, 1, 2] rfl)
def fX11_may_107 (σ : St) (x1 : Int32) (x2 : Int32) (x3 : Int32) (y0 : Int32) (y1 : Int32) : Option (Int32 × St) :=
(wrK 16 σ 24 y1 y0 fun σ1 =>
(if x3 ≤ 99 then
fX11_may_126 σ1 x1 x2 x3 11
else
fX11_may_126 σ1 x1 x2 99 11))
set_option maxHeartbeats 4000000 in
theorem b_fX11_may_107 {E : Ev} {l : Launch} {p : Program} {e : Env} {s : State} {m : MethodId} {args : Array Value} {below : List Frame} {meth : Method} {c : Code} (C : CX false E RX11 cX11_may 4 (some .int) p s m args meth c) {rr : Int32} {sr : St} : ∀ (σ : St) (x1 : Int32) (x2 : Int32) (x3 : Int32) (y0 : Int32) (y1 : Int32), fX11_may_107 σ x1 x2 x3 y0 y1 = some (rr, sr) → GW false l (rmD 4) E 4 p e s m args below meth c (MQ below (QI false E rr sr s.heap.size) args s 0 0 (aW false E s.heap.size)) σ 107 [(0, .ref (ea E 0)), (1, .int x1), (2, .int x2), (3, .int x3)] [.int y0, .int y1, .ref (ea E 24)] := by
  intro σ x1 x2 x3 y0 y1 hf H locs ls hP hS hl
  obtain ⟨hx, hb, hr, hml, hown, hts, hlocks, hK, hX, hj⟩ := id C
  unfold fX11_may_107 at hf
  obtain ⟨h2, σ1, eσ1, hf⟩ := wrK_e hf
  refine r_ast C hP hS aM_24 h2 dX11_may_107 (fun H locs hP hS => ?_)
  rw [← eσ1] at hP
  refine lv_aload_n hx hb dX11_may_108 rfl (lv_at hl 0 rfl) ?_
  refine r_get (k := 41) (v := .ref (ea E 24)) C hP oM_0 rfl iX11 (by decide) wm_t1058 rfl rfl dX11_may_109 ?_
  refine lv_bipush (v := 11) hx hb dX11_may_112 (by decide) ?_
  refine lv_iload_n hx hb dX11_may_114 rfl (lv_at hl 3 rfl) ?_
  refine lv_bipush (v := 99) hx hb dX11_may_115 (by decide) ?_
  refine lv_icmp_le (tgt := 125) hx hb dX11_may_117 (by decide) (fun c3 => ?_) (fun c3 => ?_)
  · replace hf := it_t c3 hf
    refine lv_iload_n hx hb dX11_may_125 rfl (lv_at hl 3 rfl) ?_
    exact b_fX11_may_126 C σ1 x1 x2 x3 11 hf H locs ls hP hS (lv_sub hl [0, 1, 2] rfl)
  · replace hf := it_f c3 hf
    refine lv_bipush (v := 99) hx hb dX11_may_120 (by decide) ?_
    refine lv_goto (tgt := 126) hx hb dX11_may_122 (by decide) ?_
    exact b_fX11_may_126 C σ1 x1 x2 99 11 hf H locs ls hP hS (lv_sub hl [0, 1, 2] rfl)
def fX11_may_78 (σ : St) (x1 : Int32) (x2 : Int32) (x3 : Int32) (y0 : Int32) (y1 : Int32) : Option (Int32 × St) :=
(wrK 16 σ 24 y1 y0 fun σ1 =>
(if (σ1 0 48) = 0 then
fX11_may_107 σ1 x1 x2 x3 0 10
else
(rdK 60 (σ1 32) ((σ1 0 48) - 1) fun v4 =>
fX11_may_107 σ1 x1 x2 x3 v4 10)))
set_option maxHeartbeats 4000000 in
theorem b_fX11_may_78 {E : Ev} {l : Launch} {p : Program} {e : Env} {s : State} {m : MethodId} {args : Array Value} {below : List Frame} {meth : Method} {c : Code} (C : CX false E RX11 cX11_may 4 (some .int) p s m args meth c) {rr : Int32} {sr : St} : ∀ (σ : St) (x1 : Int32) (x2 : Int32) (x3 : Int32) (y0 : Int32) (y1 : Int32), fX11_may_78 σ x1 x2 x3 y0 y1 = some (rr, sr) → GW false l (rmD 4) E 4 p e s m args below meth c (MQ below (QI false E rr sr s.heap.size) args s 0 0 (aW false E s.heap.size)) σ 78 [(0, .ref (ea E 0)), (1, .int x1), (2, .int x2), (3, .int x3)] [.int y0, .int y1, .ref (ea E 24)] := by
  intro σ x1 x2 x3 y0 y1 hf H locs ls hP hS hl
  obtain ⟨hx, hb, hr, hml, hown, hts, hlocks, hK, hX, hj⟩ := id C
  unfold fX11_may_78 at hf
  obtain ⟨h2, σ1, eσ1, hf⟩ := wrK_e hf
  refine r_ast C hP hS aM_24 h2 dX11_may_78 (fun H locs hP hS => ?_)
  rw [← eσ1] at hP
  refine lv_aload_n hx hb dX11_may_79 rfl (lv_at hl 0 rfl) ?_
  refine r_get (k := 41) (v := .ref (ea E 24)) C hP oM_0 rfl iX11 (by decide) wm_t1058 rfl rfl dX11_may_80 ?_
  refine lv_bipush (v := 10) hx hb dX11_may_83 (by decide) ?_
  refine lv_aload_n hx hb dX11_may_85 rfl (lv_at hl 0 rfl) ?_
  refine r_get (k := 48) (v := .int (σ1 0 48)) C hP oM_0 rfl iX11 (by decide) wm_t1065 rfl rfl dX11_may_86 ?_
  refine lv_if_ne (tgt := 96) hx hb dX11_may_89 (by decide) (fun c3 => ?_) (fun c3 => ?_)
  · replace hf := it_f c3 hf
    refine lv_aload_n hx hb dX11_may_96 rfl (lv_at hl 0 rfl) ?_
    refine r_get (k := 51) (v := .ref (ea E 32)) C hP oM_0 rfl iX11 (by decide) wm_t1068 rfl rfl dX11_may_97 ?_
    refine lv_aload_n hx hb dX11_may_100 rfl (lv_at hl 0 rfl) ?_
    refine r_get (k := 48) (v := .int (σ1 0 48)) C hP oM_0 rfl iX11 (by decide) wm_t1065 rfl rfl dX11_may_101 ?_
    refine lv_iconst (v := 1) hx hb dX11_may_104 (by decide) ?_
    refine lv_isub hx hb dX11_may_105 ?_
    have h5 := (rdK_e hf).1
    refine r_ald C hP aM_32 h5 dX11_may_106 ?_
    refine lv_topi (fun v4 ev4 => ?_)
    replace hf := rdK_n ev4 hf
    exact b_fX11_may_107 C σ1 x1 x2 x3 v4 10 hf H locs ls hP hS (lv_sub hl [0, 1, 2, 3] rfl)
  · replace hf := it_t c3 hf
    refine lv_iconst (v := 0) hx hb dX11_may_92 (by decide) ?_
    refine lv_goto (tgt := 107) hx hb dX11_may_93 (by decide) ?_
    exact b_fX11_may_107 C σ1 x1 x2 x3 0 10 hf H locs ls hP hS (lv_sub hl [0, 1, 2, 3] rfl)
def fX11_may_55 (σ : St) (x1 : Int32) (x2 : Int32) (y0 : Int32) : Option (Int32 × St) :=
(if (σ 0 53) = (-1) then
fX11_may_78 σ x1 x2 y0 0 9
else
fX11_may_78 σ x1 x2 y0 (σ 0 53) 9)
set_option maxHeartbeats 4000000 in
theorem b_fX11_may_55 {E : Ev} {l : Launch} {p : Program} {e : Env} {s : State} {m : MethodId} {args : Array Value} {below : List Frame} {meth : Method} {c : Code} (C : CX false E RX11 cX11_may 4 (some .int) p s m args meth c) {rr : Int32} {sr : St} : ∀ (σ : St) (x1 : Int32) (x2 : Int32) (y0 : Int32), fX11_may_55 σ x1 x2 y0 = some (rr, sr) → GW false l (rmD 4) E 4 p e s m args below meth c (MQ below (QI false E rr sr s.heap.size) args s 0 0 (aW false E s.heap.size)) σ 55 [(0, .ref (ea E 0)), (1, .int x1), (2, .int x2)] [.int y0] := by
  intro σ x1 x2 y0 hf H locs ls hP hS hl
  obtain ⟨hx, hb, hr, hml, hown, hts, hlocks, hK, hX, hj⟩ := id C
  unfold fX11_may_55 at hf
  refine lv_istore_n (lv' := [(3, .int y0), (0, .ref (ea E 0)), (1, .int x1), (2, .int x2)]) hx hb dX11_may_55 rfl hl (by decide) rfl (fun ls hl => ?_)
  refine lv_aload_n hx hb dX11_may_56 rfl (lv_at hl 1 rfl) ?_
  refine r_get (k := 41) (v := .ref (ea E 24)) C hP oM_0 rfl iX11 (by decide) wm_t1058 rfl rfl dX11_may_57 ?_
  refine lv_bipush (v := 9) hx hb dX11_may_60 (by decide) ?_
  refine lv_aload_n hx hb dX11_may_62 rfl (lv_at hl 1 rfl) ?_
  refine r_get (k := 53) (v := .int (σ 0 53)) C hP oM_0 rfl iX11 (by decide) wm_t1070 rfl rfl dX11_may_63 ?_
  refine lv_iconst (v := (-1)) hx hb dX11_may_66 (by decide) ?_
  refine lv_icmp_ne (tgt := 74) hx hb dX11_may_67 (by decide) (fun c1 => ?_) (fun c1 => ?_)
  · replace hf := it_f c1 hf
    refine lv_aload_n hx hb dX11_may_74 rfl (lv_at hl 1 rfl) ?_
    refine r_get (k := 53) (v := .int (σ 0 53)) C hP oM_0 rfl iX11 (by decide) wm_t1070 rfl rfl dX11_may_75 ?_
    exact b_fX11_may_78 C σ x1 x2 y0 (σ 0 53) 9 hf H locs ls hP hS (lv_sub hl [1, 2, 3, 0] rfl)
  · replace hf := it_t c1 hf
    refine lv_iconst (v := 0) hx hb dX11_may_70 (by decide) ?_
    refine lv_goto (tgt := 78) hx hb dX11_may_71 (by decide) ?_
    exact b_fX11_may_78 C σ x1 x2 y0 0 9 hf H locs ls hP hS (lv_sub hl [1, 2, 3, 0] rfl)
def fX11_may (σ : St) (a0 : Int32) (a1 : Int32) : Option (Int32 × St) :=
(nmS (st_put σ 0 0 0) fun σ1 =>
(if (fX11_isIn a0 0 3) = 0 then
some ((-1), σ1)
else
(if (fX11_isIn a1 0 2) = 0 then
some ((-1), σ1)
else
(if (σ1 0 48) = 0 then
fX11_may_55 σ1 a0 a1 99
else
(rdK 60 (σ1 31) ((σ1 0 48) - 1) fun v5 =>
fX11_may_55 σ1 a0 a1 ((σ1 0 1) - v5))))))
set_option maxHeartbeats 4000000 in
theorem c_fX11_may {E : Ev} {l : Launch} (hj : jW false E) (σ : St) (sz : Nat) (a0 : Int32) (a1 : Int32) {rr : Int32} {sr : St} (hf : fX11_may σ a0 a1 = some (rr, sr)) : Met l yX11_may (Cond.code yX11_may cX11_may 4 (some .int) :: gT) (rmD 4) (va_Pc [.ref (ea E 0), .int a0, .int a1] (preW false E σ sz)) (QI false E rr sr sz) 0 0 (aW false E sz) := by
  refine r_entry (QI false E rr sr) hj (by decide) [.ref (ea E 0), .int a0, .int a1] (Nat.le_of_ble_eq_true rfl) (fun p e s m args below meth c C => ?_)
  intro H locs ls hP hS hl
  have hl : lv_has ls 4 [(0, .ref (ea E 0)), (1, .int a0), (2, .int a1)] := hl
  obtain ⟨hx, hb, hr, hml, hown, hts, hlocks, hK, hX, hj⟩ := id C
  unfold fX11_may at hf
  refine lv_aload_n hx hb dX11_may_0 rfl (lv_at hl 0 rfl) ?_
  refine lv_iconst (v := 0) hx hb dX11_may_1 (by decide) ?_
  refine r_put (k := 0) (x := 0) C hP hS tyX11 tyX11_ok nmX11 oM_0 rfl iX11 (by decide) wm_t1017 rfl rfl sM_0_0 rfl rfl (Nat.le_of_ble_eq_true rfl) dX11_may_2 (fun H locs hP hS => ?_)
  obtain ⟨σ1, eσ1, hf⟩ := nmS_e hf
  rw [← eσ1] at hP
  refine lv_aload_n hx hb dX11_may_5 rfl (lv_at hl 0 rfl) ?_
  refine lv_iload_n hx hb dX11_may_6 rfl (lv_at hl 1 rfl) ?_
  refine lv_iconst (v := 0) hx hb dX11_may_7 (by decide) ?_
  refine lv_iconst (v := 3) hx hb dX11_may_8 (by decide) ?_
  refine r_cVi (n := 3) (As := [.int a0, .int 0, .int 3]) (rest := []) C (c_fX11_isIn hj σ1 H.size a0 0 3) oM_0 rfl gv_RX11_144 (by decide +kernel) (rmD_le (by decide) (by decide)) rfl rfl (Nat.le_of_ble_eq_true rfl) dX11_may_9 hP hS hl.1 (fun H locs hP hS => ?_)
  refine lv_if_eq (tgt := 25) hx hb dX11_may_12 (by decide) (fun c2 => ?_) (fun c2 => ?_)
  · replace hf := it_t c2 hf
    refine lv_iconst (v := (-1)) hx hb dX11_may_25 (by decide) ?_
    cases hf
    exact r_iret C hP hS dX11_may_26
  · replace hf := it_f c2 hf
    refine lv_aload_n hx hb dX11_may_15 rfl (lv_at hl 0 rfl) ?_
    refine lv_iload_n hx hb dX11_may_16 rfl (lv_at hl 2 rfl) ?_
    refine lv_iconst (v := 0) hx hb dX11_may_17 (by decide) ?_
    refine lv_iconst (v := 2) hx hb dX11_may_18 (by decide) ?_
    refine r_cVi (n := 3) (As := [.int a1, .int 0, .int 2]) (rest := []) C (c_fX11_isIn hj σ1 H.size a1 0 2) oM_0 rfl gv_RX11_144 (by decide +kernel) (rmD_le (by decide) (by decide)) rfl rfl (Nat.le_of_ble_eq_true rfl) dX11_may_19 hP hS hl.1 (fun H locs hP hS => ?_)
    refine lv_if_ne (tgt := 27) hx hb dX11_may_22 (by decide) (fun c3 => ?_) (fun c3 => ?_)
    · replace hf := it_f c3 hf
      refine lv_aload_n hx hb dX11_may_27 rfl (lv_at hl 0 rfl) ?_
      refine r_get (k := 48) (v := .int (σ1 0 48)) C hP oM_0 rfl iX11 (by decide) wm_t1065 rfl rfl dX11_may_28 ?_
      refine lv_if_ne (tgt := 39) hx hb dX11_may_31 (by decide) (fun c4 => ?_) (fun c4 => ?_)
      · replace hf := it_f c4 hf
        refine lv_aload_n hx hb dX11_may_39 rfl (lv_at hl 0 rfl) ?_
        refine r_get (k := 1) (v := .int (σ1 0 1)) C hP oM_0 rfl iX11 (by decide) wm_t1018 rfl rfl dX11_may_40 ?_
        refine lv_aload_n hx hb dX11_may_43 rfl (lv_at hl 0 rfl) ?_
        refine r_get (k := 50) (v := .ref (ea E 31)) C hP oM_0 rfl iX11 (by decide) wm_t1067 rfl rfl dX11_may_44 ?_
        refine lv_aload_n hx hb dX11_may_47 rfl (lv_at hl 0 rfl) ?_
        refine r_get (k := 48) (v := .int (σ1 0 48)) C hP oM_0 rfl iX11 (by decide) wm_t1065 rfl rfl dX11_may_48 ?_
        refine lv_iconst (v := 1) hx hb dX11_may_51 (by decide) ?_
        refine lv_isub hx hb dX11_may_52 ?_
        have h6 := (rdK_e hf).1
        refine r_ald C hP aM_31 h6 dX11_may_53 ?_
        refine lv_topi (fun v5 ev5 => ?_)
        replace hf := rdK_n ev5 hf
        refine lv_isub hx hb dX11_may_54 ?_
        exact b_fX11_may_55 C σ1 a0 a1 ((σ1 0 1) - v5) hf H locs ls hP hS (lv_sub hl [0, 1, 2] rfl)
      · replace hf := it_t c4 hf
        refine lv_bipush (v := 99) hx hb dX11_may_34 (by decide) ?_
        refine lv_goto (tgt := 55) hx hb dX11_may_36 (by decide) ?_
        exact b_fX11_may_55 C σ1 a0 a1 99 hf H locs ls hP hS (lv_sub hl [0, 1, 2] rfl)
    · replace hf := it_t c3 hf
      refine lv_iconst (v := (-1)) hx hb dX11_may_25 (by decide) ?_
      cases hf
      exact r_iret C hP hS dX11_may_26
