def fX10_nearestPort_4B (σ : St) (rec4 : Int32 → Int32 → Option Int32) (x1 : Int32) (x2 : Int32) : Option Int32 :=
(if (σ 0 11) ≤ x2 then
some x1
else
(if 6 ≤ x2 then
some x1
else
(if x1 = (-1) then
rec4 x2 (x2 + 1)
else
(rdK 6 (σ 1) x2 fun v4 =>
(rdK 6 (σ 1) x1 fun v6 =>
(if v6 ≤ v4 then
rec4 x1 (x2 + 1)
else
rec4 x2 (x2 + 1)))))))
set_option maxHeartbeats 4000000 in
theorem b_fX10_nearestPort_4B {E : Ev} {l : Launch} {p : Program} {e : Env} {s : State} {m : MethodId} {args : Array Value} {below : List Frame} {meth : Method} {c : Code} (σ : St) (C : CX true E RX10 cX10_nearestPort 3 (some .int) p s m args meth c) {rr : Int32} (rec4 : Int32 → Int32 → Option Int32) (hr4 : ∀  (x1 : Int32) (x2 : Int32), rec4 x1 x2 = some rr → GW true l (rmD 1) E 3 p e s m args below meth c (MQ below (QI true E rr σ s.heap.size) args s 0 0 (aW true E s.heap.size)) σ 4 [(0, .ref (ea E 0)), (1, .int x1), (2, .int x2)] []) : ∀  (x1 : Int32) (x2 : Int32), fX10_nearestPort_4B σ rec4 x1 x2 = some rr → GW true l (rmD 1) E 3 p e s m args below meth c (MQ below (QI true E rr σ s.heap.size) args s 0 0 (aW true E s.heap.size)) σ 4 [(0, .ref (ea E 0)), (1, .int x1), (2, .int x2)] [] := by
  intro x1 x2 hf H locs ls hP hS hl
  obtain ⟨hx, hb, hr, hml, hown, hts, hlocks, hK, hX, hj⟩ := id C
  unfold fX10_nearestPort_4B at hf
  refine lv_iload_n hx hb dX10_nearestPort_4 rfl (lv_at hl 2 rfl) ?_
  refine lv_aload_n hx hb dX10_nearestPort_5 rfl (lv_at hl 0 rfl) ?_
  refine r_get (k := 11) (v := .int (σ 0 11)) C hP oC_0 rfl iX10 (by decide) wm_t305 rfl rfl dX10_nearestPort_6 ?_
  refine lv_icmp_ge (tgt := 46) hx hb dX10_nearestPort_9 (by decide) (fun c1 => ?_) (fun c1 => ?_)
  · replace hf := it_t c1 hf
    refine lv_iload_n hx hb dX10_nearestPort_46 rfl (lv_at hl 1 rfl) ?_
    cases hf
    exact r_iret C hP hS dX10_nearestPort_47
  · replace hf := it_f c1 hf
    refine lv_iload_n hx hb dX10_nearestPort_12 rfl (lv_at hl 2 rfl) ?_
    refine lv_bipush (v := 6) hx hb dX10_nearestPort_13 (by decide) ?_
    refine lv_icmp_ge (tgt := 46) hx hb dX10_nearestPort_15 (by decide) (fun c2 => ?_) (fun c2 => ?_)
    · replace hf := it_t c2 hf
      refine lv_iload_n hx hb dX10_nearestPort_46 rfl (lv_at hl 1 rfl) ?_
      cases hf
      exact r_iret C hP hS dX10_nearestPort_47
    · replace hf := it_f c2 hf
      refine lv_iload_n hx hb dX10_nearestPort_18 rfl (lv_at hl 1 rfl) ?_
      refine lv_iconst (v := (-1)) hx hb dX10_nearestPort_19 (by decide) ?_
      refine lv_icmp_eq (tgt := 38) hx hb dX10_nearestPort_20 (by decide) (fun c3 => ?_) (fun c3 => ?_)
      · replace hf := it_t c3 hf
        refine lv_iload_n hx hb dX10_nearestPort_38 rfl (lv_at hl 2 rfl) ?_
        refine lv_istore_n (lv' := [(1, .int x2), (0, .ref (ea E 0)), (2, .int x2)]) hx hb dX10_nearestPort_39 rfl hl (by decide) rfl (fun ls hl => ?_)
        refine lv_iinc (v := (x2 + 1)) (lv' := [(2, .int (x2 + 1)), (1, .int x2), (0, .ref (ea E 0))]) hx hb dX10_nearestPort_40 hl (k := 2) rfl rfl (by decide) rfl (fun ls hl => ?_)
        refine lv_goto (tgt := 4) hx hb dX10_nearestPort_43 (by decide) ?_
        exact hr4 x2 (x2 + 1) hf H locs ls hP hS (lv_sub hl [2, 1, 0] rfl)
      · replace hf := it_f c3 hf
        refine lv_aload_n hx hb dX10_nearestPort_23 rfl (lv_at hl 0 rfl) ?_
        refine r_get (k := 10) (v := .ref (ea E 1)) C hP oC_0 rfl iX10 (by decide) wm_t304 rfl rfl dX10_nearestPort_24 ?_
        refine lv_iload_n hx hb dX10_nearestPort_27 rfl (lv_at hl 2 rfl) ?_
        have h5 := (rdK_e hf).1
        refine r_ald C hP aC_1 h5 dX10_nearestPort_28 ?_
        refine lv_topi (fun v4 ev4 => ?_)
        replace hf := rdK_n ev4 hf
        refine lv_aload_n hx hb dX10_nearestPort_29 rfl (lv_at hl 0 rfl) ?_
        refine r_get (k := 10) (v := .ref (ea E 1)) C hP oC_0 rfl iX10 (by decide) wm_t304 rfl rfl dX10_nearestPort_30 ?_
        refine lv_iload_n hx hb dX10_nearestPort_33 rfl (lv_at hl 1 rfl) ?_
        have h7 := (rdK_e hf).1
        refine r_ald C hP aC_1 h7 dX10_nearestPort_34 ?_
        refine lv_topi (fun v6 ev6 => ?_)
        replace hf := rdK_n ev6 hf
        refine lv_icmp_ge (tgt := 40) hx hb dX10_nearestPort_35 (by decide) (fun c8 => ?_) (fun c8 => ?_)
        · replace hf := it_t c8 hf
          refine lv_iinc (v := (x2 + 1)) (lv' := [(2, .int (x2 + 1)), (0, .ref (ea E 0)), (1, .int x1)]) hx hb dX10_nearestPort_40 hl (k := 2) rfl rfl (by decide) rfl (fun ls hl => ?_)
          refine lv_goto (tgt := 4) hx hb dX10_nearestPort_43 (by decide) ?_
          exact hr4 x1 (x2 + 1) hf H locs ls hP hS (lv_sub hl [1, 2, 0] rfl)
        · replace hf := it_f c8 hf
          refine lv_iload_n hx hb dX10_nearestPort_38 rfl (lv_at hl 2 rfl) ?_
          refine lv_istore_n (lv' := [(1, .int x2), (0, .ref (ea E 0)), (2, .int x2)]) hx hb dX10_nearestPort_39 rfl hl (by decide) rfl (fun ls hl => ?_)
          refine lv_iinc (v := (x2 + 1)) (lv' := [(2, .int (x2 + 1)), (1, .int x2), (0, .ref (ea E 0))]) hx hb dX10_nearestPort_40 hl (k := 2) rfl rfl (by decide) rfl (fun ls hl => ?_)
          refine lv_goto (tgt := 4) hx hb dX10_nearestPort_43 (by decide) ?_
          exact hr4 x2 (x2 + 1) hf H locs ls hP hS (lv_sub hl [2, 1, 0] rfl)
def fX10_nearestPort_4 (σ : St) : Nat → Int32 → Int32 → Option Int32
  | 0 => fun _ _ => none
  | n + 1 => fun x1 x2 => fX10_nearestPort_4B σ (fX10_nearestPort_4 σ n) x1 x2
theorem b_fX10_nearestPort_4 {E : Ev} {l : Launch} {p : Program} {e : Env} {s : State} {m : MethodId} {args : Array Value} {below : List Frame} {meth : Method} {c : Code} (σ : St) (C : CX true E RX10 cX10_nearestPort 3 (some .int) p s m args meth c) {rr : Int32} : ∀ (n : Nat) (x1 : Int32) (x2 : Int32), fX10_nearestPort_4 σ n x1 x2 = some rr → GW true l (rmD 1) E 3 p e s m args below meth c (MQ below (QI true E rr σ s.heap.size) args s 0 0 (aW true E s.heap.size)) σ 4 [(0, .ref (ea E 0)), (1, .int x1), (2, .int x2)] [] := by
  intro n
  induction n with
  | zero => intro x1 x2 hf; have hf : (none : Option _) = some _ := hf; cases hf
  | succ n ih => intro x1 x2 hf; exact b_fX10_nearestPort_4B σ C (fX10_nearestPort_4 σ n) ih x1 x2 hf
def fX10_nearestPort (σ : St) : Option Int32 :=
fX10_nearestPort_4 σ FU (-1) 0
set_option maxHeartbeats 4000000 in
theorem c_fX10_nearestPort {E : Ev} {l : Launch} (hj : jW true E) (σ : St) (sz : Nat) {rr : Int32} (hf : fX10_nearestPort σ = some rr) : Met l yX10_nearestPort (Cond.code yX10_nearestPort cX10_nearestPort 3 (some .int) :: gT) (rmD 1) (va_Pc [.ref (ea E 0)] (preW true E σ sz)) (QI true E rr σ sz) 0 0 (aW true E sz) := by
  refine r_entry (QI true E rr σ) hj (by decide) [.ref (ea E 0)] (Nat.le_of_ble_eq_true rfl) (fun p e s m args below meth c C => ?_)
  intro H locs ls hP hS hl
  have hl : lv_has ls 3 [(0, .ref (ea E 0))] := hl
  obtain ⟨hx, hb, hr, hml, hown, hts, hlocks, hK, hX, hj⟩ := id C
  unfold fX10_nearestPort at hf
  refine lv_iconst (v := (-1)) hx hb dX10_nearestPort_0 (by decide) ?_
  refine lv_istore_n (lv' := [(1, .int (-1)), (0, .ref (ea E 0))]) hx hb dX10_nearestPort_1 rfl hl (by decide) rfl (fun ls hl => ?_)
  refine lv_iconst (v := 0) hx hb dX10_nearestPort_2 (by decide) ?_
  refine lv_istore_n (lv' := [(2, .int 0), (1, .int (-1)), (0, .ref (ea E 0))]) hx hb dX10_nearestPort_3 rfl hl (by decide) rfl (fun ls hl => ?_)
  exact b_fX10_nearestPort_4 σ C FU (-1) 0 hf H locs ls hP hS (lv_sub hl [2, 1, 0] rfl)
def fX11_isIn (a0 : Int32) (a1 : Int32) (a2 : Int32) : Int32 :=
(if a0 < a1 then
0
else
(if a2 < a0 then
0
else
1))
set_option maxHeartbeats 4000000 in
theorem c_fX11_isIn {E : Ev} {l : Launch} (hj : jW false E) (σ : St) (sz : Nat) (a0 : Int32) (a1 : Int32) (a2 : Int32) : Met l yX11_isIn (Cond.code yX11_isIn cX11_isIn 4 (some .boolean) :: gT) (rmD 1) (va_Pc [.ref (ea E 0), .int a0, .int a1, .int a2] (preW false E σ sz)) (QI false E (fX11_isIn a0 a1 a2) σ sz) 0 0 (aW false E sz) := by
  refine r_entry (QI false E (fX11_isIn a0 a1 a2) σ) hj (by decide) [.ref (ea E 0), .int a0, .int a1, .int a2] (Nat.le_of_ble_eq_true rfl) (fun p e s m args below meth c C => ?_)
  intro H locs ls hP hS hl
  have hl : lv_has ls 4 [(0, .ref (ea E 0)), (1, .int a0), (2, .int a1), (3, .int a2)] := hl
  obtain ⟨hx, hb, hr, hml, hown, hts, hlocks, hK, hX, hj⟩ := id C
  generalize hf : fX11_isIn a0 a1 a2 = rr
  unfold fX11_isIn at hf
  refine lv_iload_n hx hb dX11_isIn_0 rfl (lv_at hl 1 rfl) ?_
  refine lv_iload_n hx hb dX11_isIn_1 rfl (lv_at hl 2 rfl) ?_
  refine lv_icmp_lt (tgt := 14) hx hb dX11_isIn_2 (by decide) (fun c1 => ?_) (fun c1 => ?_)
  · replace hf := it_t c1 hf
    refine lv_iconst (v := 0) hx hb dX11_isIn_14 (by decide) ?_
    subst hf
    exact r_zret C rfl hP hS dX11_isIn_15
  · replace hf := it_f c1 hf
    refine lv_iload_n hx hb dX11_isIn_5 rfl (lv_at hl 1 rfl) ?_
    refine lv_iload_n hx hb dX11_isIn_6 rfl (lv_at hl 3 rfl) ?_
    refine lv_icmp_gt (tgt := 14) hx hb dX11_isIn_7 (by decide) (fun c2 => ?_) (fun c2 => ?_)
    · replace hf := it_t c2 hf
      refine lv_iconst (v := 0) hx hb dX11_isIn_14 (by decide) ?_
      subst hf
      exact r_zret C rfl hP hS dX11_isIn_15
    · replace hf := it_f c2 hf
      refine lv_iconst (v := 1) hx hb dX11_isIn_10 (by decide) ?_
      refine lv_goto (tgt := 15) hx hb dX11_isIn_11 (by decide) ?_
      subst hf
      exact r_zret C rfl hP hS dX11_isIn_15
theorem z_fX11_isIn (a0 : Int32) (a1 : Int32) (a2 : Int32) : fX11_isIn a0 a1 a2 = 0 ∨ fX11_isIn a0 a1 a2 = 1 := by
  unfold fX11_isIn
  repeat' split
  all_goals first | exact Or.inl rfl | exact Or.inr rfl
def fX11_sort (σ : St) (a0 : Int32) : Option (Int32 × St) :=
(nmS (st_put σ 0 0 0) fun σ1 =>
(if (fX11_isIn a0 0 2) = 0 then
some (0, σ1)
else
(nmS (st_put σ1 0 2 a0) fun σ3 =>
some (1, σ3))))
set_option maxHeartbeats 4000000 in
theorem c_fX11_sort {E : Ev} {l : Launch} (hj : jW false E) (σ : St) (sz : Nat) (a0 : Int32) {rr : Int32} {sr : St} (hf : fX11_sort σ a0 = some (rr, sr)) : Met l yX11_sort (Cond.code yX11_sort cX11_sort 2 (some .boolean) :: gT) (rmD 2) (va_Pc [.ref (ea E 0), .int a0] (preW false E σ sz)) (QI false E rr sr sz) 0 0 (aW false E sz) := by
  refine r_entry (QI false E rr sr) hj (by decide) [.ref (ea E 0), .int a0] (Nat.le_of_ble_eq_true rfl) (fun p e s m args below meth c C => ?_)
  intro H locs ls hP hS hl
  have hl : lv_has ls 2 [(0, .ref (ea E 0)), (1, .int a0)] := hl
  obtain ⟨hx, hb, hr, hml, hown, hts, hlocks, hK, hX, hj⟩ := id C
  unfold fX11_sort at hf
  refine lv_aload_n hx hb dX11_sort_0 rfl (lv_at hl 0 rfl) ?_
  refine lv_iconst (v := 0) hx hb dX11_sort_1 (by decide) ?_
  refine r_put (k := 0) (x := 0) C hP hS tyX11 tyX11_ok nmX11 oM_0 rfl iX11 (by decide) wm_t1017 rfl rfl sM_0_0 rfl rfl (Nat.le_of_ble_eq_true rfl) dX11_sort_2 (fun H locs hP hS => ?_)
  obtain ⟨σ1, eσ1, hf⟩ := nmS_e hf
  rw [← eσ1] at hP
  refine lv_aload_n hx hb dX11_sort_5 rfl (lv_at hl 0 rfl) ?_
  refine lv_iload_n hx hb dX11_sort_6 rfl (lv_at hl 1 rfl) ?_
  refine lv_iconst (v := 0) hx hb dX11_sort_7 (by decide) ?_
  refine lv_iconst (v := 2) hx hb dX11_sort_8 (by decide) ?_
  refine r_cVi (n := 3) (As := [.int a0, .int 0, .int 2]) (rest := []) C (c_fX11_isIn hj σ1 H.size a0 0 2) oM_0 rfl gv_RX11_144 (by decide +kernel) (rmD_le (by decide) (by decide)) rfl rfl (Nat.le_of_ble_eq_true rfl) dX11_sort_9 hP hS hl.1 (fun H locs hP hS => ?_)
  refine lv_if_ne (tgt := 17) hx hb dX11_sort_12 (by decide) (fun c2 => ?_) (fun c2 => ?_)
  · replace hf := it_f c2 hf
    refine lv_aload_n hx hb dX11_sort_17 rfl (lv_at hl 0 rfl) ?_
    refine lv_iload_n hx hb dX11_sort_18 rfl (lv_at hl 1 rfl) ?_
    refine r_put (k := 2) (x := a0) C hP hS tyX11 tyX11_ok nmX11 oM_0 rfl iX11 (by decide) wm_t1019 rfl rfl sM_0_2 rfl rfl (Nat.le_of_ble_eq_true rfl) dX11_sort_19 (fun H locs hP hS => ?_)
    obtain ⟨σ3, eσ3, hf⟩ := nmS_e hf
    rw [← eσ3] at hP
    refine lv_iconst (v := 1) hx hb dX11_sort_22 (by decide) ?_
    cases hf
    exact r_zret C rfl hP hS dX11_sort_23
  · replace hf := it_t c2 hf
    refine lv_iconst (v := 0) hx hb dX11_sort_15 (by decide) ?_
    cases hf
    exact r_zret C rfl hP hS dX11_sort_16
def fX11_sky (σ : St) (a0 : Int32) (a1 : Int32) (a2 : Int32) : Option (Int32 × St) :=
(nmS (st_put σ 0 0 0) fun σ1 =>
(if (fX11_isIn a0 0 29) = 0 then
some (0, σ1)
else
(if (fX11_isIn a1 0 9) = 0 then
some (0, σ1)
else
(if (fX11_isIn a2 0 9) = 0 then
some (0, σ1)
else
(wrK 30 σ1 1 a0 a1 fun σ5 =>
(wrK 30 σ5 2 a0 a2 fun σ7 =>
some (1, σ7)))))))
set_option maxHeartbeats 4000000 in
theorem c_fX11_sky {E : Ev} {l : Launch} (hj : jW false E) (σ : St) (sz : Nat) (a0 : Int32) (a1 : Int32) (a2 : Int32) {rr : Int32} {sr : St} (hf : fX11_sky σ a0 a1 a2 = some (rr, sr)) : Met l yX11_sky (Cond.code yX11_sky cX11_sky 4 (some .boolean) :: gT) (rmD 2) (va_Pc [.ref (ea E 0), .int a0, .int a1, .int a2] (preW false E σ sz)) (QI false E rr sr sz) 0 0 (aW false E sz) := by
  refine r_entry (QI false E rr sr) hj (by decide) [.ref (ea E 0), .int a0, .int a1, .int a2] (Nat.le_of_ble_eq_true rfl) (fun p e s m args below meth c C => ?_)
  intro H locs ls hP hS hl
  have hl : lv_has ls 4 [(0, .ref (ea E 0)), (1, .int a0), (2, .int a1), (3, .int a2)] := hl
  obtain ⟨hx, hb, hr, hml, hown, hts, hlocks, hK, hX, hj⟩ := id C
  unfold fX11_sky at hf
  refine lv_aload_n hx hb dX11_sky_0 rfl (lv_at hl 0 rfl) ?_
  refine lv_iconst (v := 0) hx hb dX11_sky_1 (by decide) ?_
  refine r_put (k := 0) (x := 0) C hP hS tyX11 tyX11_ok nmX11 oM_0 rfl iX11 (by decide) wm_t1017 rfl rfl sM_0_0 rfl rfl (Nat.le_of_ble_eq_true rfl) dX11_sky_2 (fun H locs hP hS => ?_)
  obtain ⟨σ1, eσ1, hf⟩ := nmS_e hf
  rw [← eσ1] at hP
  refine lv_aload_n hx hb dX11_sky_5 rfl (lv_at hl 0 rfl) ?_
  refine lv_iload_n hx hb dX11_sky_6 rfl (lv_at hl 1 rfl) ?_
  refine lv_iconst (v := 0) hx hb dX11_sky_7 (by decide) ?_
  refine lv_bipush (v := 29) hx hb dX11_sky_8 (by decide) ?_
  refine r_cVi (n := 3) (As := [.int a0, .int 0, .int 29]) (rest := []) C (c_fX11_isIn hj σ1 H.size a0 0 29) oM_0 rfl gv_RX11_144 (by decide +kernel) (rmD_le (by decide) (by decide)) rfl rfl (Nat.le_of_ble_eq_true rfl) dX11_sky_10 hP hS hl.1 (fun H locs hP hS => ?_)
  refine lv_if_eq (tgt := 38) hx hb dX11_sky_13 (by decide) (fun c2 => ?_) (fun c2 => ?_)
  · replace hf := it_t c2 hf
    refine lv_iconst (v := 0) hx hb dX11_sky_38 (by decide) ?_
    cases hf
    exact r_zret C rfl hP hS dX11_sky_39
  · replace hf := it_f c2 hf
    refine lv_aload_n hx hb dX11_sky_16 rfl (lv_at hl 0 rfl) ?_
    refine lv_iload_n hx hb dX11_sky_17 rfl (lv_at hl 2 rfl) ?_
    refine lv_iconst (v := 0) hx hb dX11_sky_18 (by decide) ?_
    refine lv_bipush (v := 9) hx hb dX11_sky_19 (by decide) ?_
    refine r_cVi (n := 3) (As := [.int a1, .int 0, .int 9]) (rest := []) C (c_fX11_isIn hj σ1 H.size a1 0 9) oM_0 rfl gv_RX11_144 (by decide +kernel) (rmD_le (by decide) (by decide)) rfl rfl (Nat.le_of_ble_eq_true rfl) dX11_sky_21 hP hS hl.1 (fun H locs hP hS => ?_)
    refine lv_if_eq (tgt := 38) hx hb dX11_sky_24 (by decide) (fun c3 => ?_) (fun c3 => ?_)
    · replace hf := it_t c3 hf
      refine lv_iconst (v := 0) hx hb dX11_sky_38 (by decide) ?_
      cases hf
      exact r_zret C rfl hP hS dX11_sky_39
    · replace hf := it_f c3 hf
      refine lv_aload_n hx hb dX11_sky_27 rfl (lv_at hl 0 rfl) ?_
      refine lv_iload_n hx hb dX11_sky_28 rfl (lv_at hl 3 rfl) ?_
      refine lv_iconst (v := 0) hx hb dX11_sky_29 (by decide) ?_
      refine lv_bipush (v := 9) hx hb dX11_sky_30 (by decide) ?_
      refine r_cVi (n := 3) (As := [.int a2, .int 0, .int 9]) (rest := []) C (c_fX11_isIn hj σ1 H.size a2 0 9) oM_0 rfl gv_RX11_144 (by decide +kernel) (rmD_le (by decide) (by decide)) rfl rfl (Nat.le_of_ble_eq_true rfl) dX11_sky_32 hP hS hl.1 (fun H locs hP hS => ?_)
      refine lv_if_ne (tgt := 40) hx hb dX11_sky_35 (by decide) (fun c4 => ?_) (fun c4 => ?_)
      · replace hf := it_f c4 hf
        refine lv_aload_n hx hb dX11_sky_40 rfl (lv_at hl 0 rfl) ?_
        refine r_get (k := 3) (v := .ref (ea E 1)) C hP oM_0 rfl iX11 (by decide) wm_t1020 rfl rfl dX11_sky_41 ?_
        refine lv_iload_n hx hb dX11_sky_44 rfl (lv_at hl 1 rfl) ?_
        refine lv_iload_n hx hb dX11_sky_45 rfl (lv_at hl 2 rfl) ?_
        obtain ⟨h6, σ5, eσ5, hf⟩ := wrK_e hf
        refine r_ast C hP hS aM_1 h6 dX11_sky_46 (fun H locs hP hS => ?_)
        rw [← eσ5] at hP
        refine lv_aload_n hx hb dX11_sky_47 rfl (lv_at hl 0 rfl) ?_
        refine r_get (k := 4) (v := .ref (ea E 2)) C hP oM_0 rfl iX11 (by decide) wm_t1021 rfl rfl dX11_sky_48 ?_
        refine lv_iload_n hx hb dX11_sky_51 rfl (lv_at hl 1 rfl) ?_
        refine lv_iload_n hx hb dX11_sky_52 rfl (lv_at hl 3 rfl) ?_
        obtain ⟨h8, σ7, eσ7, hf⟩ := wrK_e hf
        refine r_ast C hP hS aM_2 h8 dX11_sky_53 (fun H locs hP hS => ?_)
        rw [← eσ7] at hP
        refine lv_iconst (v := 1) hx hb dX11_sky_54 (by decide) ?_
        cases hf
        exact r_zret C rfl hP hS dX11_sky_55
      · replace hf := it_t c4 hf
        refine lv_iconst (v := 0) hx hb dX11_sky_38 (by decide) ?_
        cases hf
        exact r_zret C rfl hP hS dX11_sky_39
def fX11_heapAt (a0 : Int32) (a1 : Int32) (a2 : Int32) : Int32 :=
(if (fX11_isIn a0 0 7) = 0 then
(-1)
else
(if (fX11_isIn a1 0 7) = 0 then
(-1)
else
(if (fX11_isIn a2 0 3) = 0 then
(-1)
else
(((64 * a2) + (8 * a1)) + a0))))
set_option maxHeartbeats 4000000 in
theorem c_fX11_heapAt {E : Ev} {l : Launch} (hj : jW false E) (σ : St) (sz : Nat) (a0 : Int32) (a1 : Int32) (a2 : Int32) : Met l yX11_heapAt (Cond.code yX11_heapAt cX11_heapAt 4 (some .int) :: gT) (rmD 2) (va_Pc [.ref (ea E 0), .int a0, .int a1, .int a2] (preW false E σ sz)) (QI false E (fX11_heapAt a0 a1 a2) σ sz) 0 0 (aW false E sz) := by
  refine r_entry (QI false E (fX11_heapAt a0 a1 a2) σ) hj (by decide) [.ref (ea E 0), .int a0, .int a1, .int a2] (Nat.le_of_ble_eq_true rfl) (fun p e s m args below meth c C => ?_)
  intro H locs ls hP hS hl
  have hl : lv_has ls 4 [(0, .ref (ea E 0)), (1, .int a0), (2, .int a1), (3, .int a2)] := hl
  obtain ⟨hx, hb, hr, hml, hown, hts, hlocks, hK, hX, hj⟩ := id C
  generalize hf : fX11_heapAt a0 a1 a2 = rr
  unfold fX11_heapAt at hf
  refine lv_aload_n hx hb dX11_heapAt_0 rfl (lv_at hl 0 rfl) ?_
  refine lv_iload_n hx hb dX11_heapAt_1 rfl (lv_at hl 1 rfl) ?_
  refine lv_iconst (v := 0) hx hb dX11_heapAt_2 (by decide) ?_
  refine lv_bipush (v := 7) hx hb dX11_heapAt_3 (by decide) ?_
  refine r_cVi (n := 3) (As := [.int a0, .int 0, .int 7]) (rest := []) C (c_fX11_isIn hj σ H.size a0 0 7) oM_0 rfl gv_RX11_144 (by decide +kernel) (rmD_le (by decide) (by decide)) rfl rfl (Nat.le_of_ble_eq_true rfl) dX11_heapAt_5 hP hS hl.1 (fun H locs hP hS => ?_)
  refine lv_if_eq (tgt := 46) hx hb dX11_heapAt_8 (by decide) (fun c1 => ?_) (fun c1 => ?_)
  · replace hf := it_t c1 hf
    refine lv_iconst (v := (-1)) hx hb dX11_heapAt_46 (by decide) ?_
    subst hf
    exact r_iret C hP hS dX11_heapAt_47
  · replace hf := it_f c1 hf
    refine lv_aload_n hx hb dX11_heapAt_11 rfl (lv_at hl 0 rfl) ?_
    refine lv_iload_n hx hb dX11_heapAt_12 rfl (lv_at hl 2 rfl) ?_
    refine lv_iconst (v := 0) hx hb dX11_heapAt_13 (by decide) ?_
    refine lv_bipush (v := 7) hx hb dX11_heapAt_14 (by decide) ?_
    refine r_cVi (n := 3) (As := [.int a1, .int 0, .int 7]) (rest := []) C (c_fX11_isIn hj σ H.size a1 0 7) oM_0 rfl gv_RX11_144 (by decide +kernel) (rmD_le (by decide) (by decide)) rfl rfl (Nat.le_of_ble_eq_true rfl) dX11_heapAt_16 hP hS hl.1 (fun H locs hP hS => ?_)
    refine lv_if_eq (tgt := 46) hx hb dX11_heapAt_19 (by decide) (fun c2 => ?_) (fun c2 => ?_)
    · replace hf := it_t c2 hf
      refine lv_iconst (v := (-1)) hx hb dX11_heapAt_46 (by decide) ?_
      subst hf
      exact r_iret C hP hS dX11_heapAt_47
    · replace hf := it_f c2 hf
      refine lv_aload_n hx hb dX11_heapAt_22 rfl (lv_at hl 0 rfl) ?_
      refine lv_iload_n hx hb dX11_heapAt_23 rfl (lv_at hl 3 rfl) ?_
      refine lv_iconst (v := 0) hx hb dX11_heapAt_24 (by decide) ?_
      refine lv_iconst (v := 3) hx hb dX11_heapAt_25 (by decide) ?_
      refine r_cVi (n := 3) (As := [.int a2, .int 0, .int 3]) (rest := []) C (c_fX11_isIn hj σ H.size a2 0 3) oM_0 rfl gv_RX11_144 (by decide +kernel) (rmD_le (by decide) (by decide)) rfl rfl (Nat.le_of_ble_eq_true rfl) dX11_heapAt_26 hP hS hl.1 (fun H locs hP hS => ?_)
      refine lv_if_eq (tgt := 46) hx hb dX11_heapAt_29 (by decide) (fun c3 => ?_) (fun c3 => ?_)
      · replace hf := it_t c3 hf
        refine lv_iconst (v := (-1)) hx hb dX11_heapAt_46 (by decide) ?_
        subst hf
        exact r_iret C hP hS dX11_heapAt_47
      · replace hf := it_f c3 hf
        refine lv_bipush (v := 64) hx hb dX11_heapAt_32 (by decide) ?_
        refine lv_iload_n hx hb dX11_heapAt_34 rfl (lv_at hl 3 rfl) ?_
        refine lv_imul hx hb dX11_heapAt_35 ?_
        refine lv_bipush (v := 8) hx hb dX11_heapAt_36 (by decide) ?_
        refine lv_iload_n hx hb dX11_heapAt_38 rfl (lv_at hl 2 rfl) ?_
        refine lv_imul hx hb dX11_heapAt_39 ?_
        refine lv_iadd hx hb dX11_heapAt_40 ?_
        refine lv_iload_n hx hb dX11_heapAt_41 rfl (lv_at hl 1 rfl) ?_
        refine lv_iadd hx hb dX11_heapAt_42 ?_
        refine lv_goto (tgt := 47) hx hb dX11_heapAt_43 (by decide) ?_
        subst hf
        exact r_iret C hP hS dX11_heapAt_47
def fX11_holdAt (a0 : Int32) (a1 : Int32) (a2 : Int32) : Int32 :=
(if (fX11_isIn a0 0 3) = 0 then
(-1)
else
(if (fX11_isIn a1 0 5) = 0 then
(-1)
else
(if (fX11_isIn a2 0 5) = 0 then
(-1)
else
(((36 * a0) + (6 * a1)) + a2))))
set_option maxHeartbeats 4000000 in
theorem c_fX11_holdAt {E : Ev} {l : Launch} (hj : jW false E) (σ : St) (sz : Nat) (a0 : Int32) (a1 : Int32) (a2 : Int32) : Met l yX11_holdAt (Cond.code yX11_holdAt cX11_holdAt 4 (some .int) :: gT) (rmD 2) (va_Pc [.ref (ea E 0), .int a0, .int a1, .int a2] (preW false E σ sz)) (QI false E (fX11_holdAt a0 a1 a2) σ sz) 0 0 (aW false E sz) := by
  refine r_entry (QI false E (fX11_holdAt a0 a1 a2) σ) hj (by decide) [.ref (ea E 0), .int a0, .int a1, .int a2] (Nat.le_of_ble_eq_true rfl) (fun p e s m args below meth c C => ?_)
  intro H locs ls hP hS hl
  have hl : lv_has ls 4 [(0, .ref (ea E 0)), (1, .int a0), (2, .int a1), (3, .int a2)] := hl
  obtain ⟨hx, hb, hr, hml, hown, hts, hlocks, hK, hX, hj⟩ := id C
  generalize hf : fX11_holdAt a0 a1 a2 = rr
  unfold fX11_holdAt at hf
  refine lv_aload_n hx hb dX11_holdAt_0 rfl (lv_at hl 0 rfl) ?_
  refine lv_iload_n hx hb dX11_holdAt_1 rfl (lv_at hl 1 rfl) ?_
  refine lv_iconst (v := 0) hx hb dX11_holdAt_2 (by decide) ?_
  refine lv_iconst (v := 3) hx hb dX11_holdAt_3 (by decide) ?_
  refine r_cVi (n := 3) (As := [.int a0, .int 0, .int 3]) (rest := []) C (c_fX11_isIn hj σ H.size a0 0 3) oM_0 rfl gv_RX11_144 (by decide +kernel) (rmD_le (by decide) (by decide)) rfl rfl (Nat.le_of_ble_eq_true rfl) dX11_holdAt_4 hP hS hl.1 (fun H locs hP hS => ?_)
  refine lv_if_eq (tgt := 44) hx hb dX11_holdAt_7 (by decide) (fun c1 => ?_) (fun c1 => ?_)
  · replace hf := it_t c1 hf
    refine lv_iconst (v := (-1)) hx hb dX11_holdAt_44 (by decide) ?_
    subst hf
    exact r_iret C hP hS dX11_holdAt_45
  · replace hf := it_f c1 hf
    refine lv_aload_n hx hb dX11_holdAt_10 rfl (lv_at hl 0 rfl) ?_
    refine lv_iload_n hx hb dX11_holdAt_11 rfl (lv_at hl 2 rfl) ?_
    refine lv_iconst (v := 0) hx hb dX11_holdAt_12 (by decide) ?_
    refine lv_iconst (v := 5) hx hb dX11_holdAt_13 (by decide) ?_
    refine r_cVi (n := 3) (As := [.int a1, .int 0, .int 5]) (rest := []) C (c_fX11_isIn hj σ H.size a1 0 5) oM_0 rfl gv_RX11_144 (by decide +kernel) (rmD_le (by decide) (by decide)) rfl rfl (Nat.le_of_ble_eq_true rfl) dX11_holdAt_14 hP hS hl.1 (fun H locs hP hS => ?_)
    refine lv_if_eq (tgt := 44) hx hb dX11_holdAt_17 (by decide) (fun c2 => ?_) (fun c2 => ?_)
    · replace hf := it_t c2 hf
      refine lv_iconst (v := (-1)) hx hb dX11_holdAt_44 (by decide) ?_
      subst hf
      exact r_iret C hP hS dX11_holdAt_45
    · replace hf := it_f c2 hf
      refine lv_aload_n hx hb dX11_holdAt_20 rfl (lv_at hl 0 rfl) ?_
      refine lv_iload_n hx hb dX11_holdAt_21 rfl (lv_at hl 3 rfl) ?_
      refine lv_iconst (v := 0) hx hb dX11_holdAt_22 (by decide) ?_
      refine lv_iconst (v := 5) hx hb dX11_holdAt_23 (by decide) ?_
      refine r_cVi (n := 3) (As := [.int a2, .int 0, .int 5]) (rest := []) C (c_fX11_isIn hj σ H.size a2 0 5) oM_0 rfl gv_RX11_144 (by decide +kernel) (rmD_le (by decide) (by decide)) rfl rfl (Nat.le_of_ble_eq_true rfl) dX11_holdAt_24 hP hS hl.1 (fun H locs hP hS => ?_)
      refine lv_if_eq (tgt := 44) hx hb dX11_holdAt_27 (by decide) (fun c3 => ?_) (fun c3 => ?_)
      · replace hf := it_t c3 hf
        refine lv_iconst (v := (-1)) hx hb dX11_holdAt_44 (by decide) ?_
        subst hf
        exact r_iret C hP hS dX11_holdAt_45
      · replace hf := it_f c3 hf
        refine lv_bipush (v := 36) hx hb dX11_holdAt_30 (by decide) ?_
        refine lv_iload_n hx hb dX11_holdAt_32 rfl (lv_at hl 1 rfl) ?_
        refine lv_imul hx hb dX11_holdAt_33 ?_
        refine lv_bipush (v := 6) hx hb dX11_holdAt_34 (by decide) ?_
        refine lv_iload_n hx hb dX11_holdAt_36 rfl (lv_at hl 2 rfl) ?_
        refine lv_imul hx hb dX11_holdAt_37 ?_
        refine lv_iadd hx hb dX11_holdAt_38 ?_
        refine lv_iload_n hx hb dX11_holdAt_39 rfl (lv_at hl 3 rfl) ?_
        refine lv_iadd hx hb dX11_holdAt_40 ?_
        refine lv_goto (tgt := 45) hx hb dX11_holdAt_41 (by decide) ?_
        subst hf
        exact r_iret C hP hS dX11_holdAt_45
def fX11_wetOf (a0 : Int32) (a1 : Int32) : Option Int32 :=
(if a0 = 0 then
some 0
else
(nz a0 (
some (a1 / a0))))
set_option maxHeartbeats 4000000 in
theorem c_fX11_wetOf {E : Ev} {l : Launch} (hj : jW false E) (σ : St) (sz : Nat) (a0 : Int32) (a1 : Int32) {rr : Int32} (hf : fX11_wetOf a0 a1 = some rr) : Met l yX11_wetOf (Cond.code yX11_wetOf cX11_wetOf 3 (some .int) :: gT) (rmD 1) (va_Pc [.ref (ea E 0), .int a0, .int a1] (preW false E σ sz)) (QI false E rr σ sz) 0 0 (aW false E sz) := by
  refine r_entry (QI false E rr σ) hj (by decide) [.ref (ea E 0), .int a0, .int a1] (Nat.le_of_ble_eq_true rfl) (fun p e s m args below meth c C => ?_)
  intro H locs ls hP hS hl
  have hl : lv_has ls 3 [(0, .ref (ea E 0)), (1, .int a0), (2, .int a1)] := hl
  obtain ⟨hx, hb, hr, hml, hown, hts, hlocks, hK, hX, hj⟩ := id C
  unfold fX11_wetOf at hf
  refine lv_iload_n hx hb dX11_wetOf_0 rfl (lv_at hl 1 rfl) ?_
  refine lv_if_ne (tgt := 8) hx hb dX11_wetOf_1 (by decide) (fun c1 => ?_) (fun c1 => ?_)
  · replace hf := it_f c1 hf
    refine lv_iload_n hx hb dX11_wetOf_8 rfl (lv_at hl 2 rfl) ?_
    refine lv_iload_n hx hb dX11_wetOf_9 rfl (lv_at hl 1 rfl) ?_
    obtain ⟨h2, hf⟩ := nz_e hf
    refine lv_idiv hx hb dX11_wetOf_10 h2 ?_
    cases hf
    exact r_iret C hP hS dX11_wetOf_11
  · replace hf := it_t c1 hf
    refine lv_iconst (v := 0) hx hb dX11_wetOf_4 (by decide) ?_
    refine lv_goto (tgt := 11) hx hb dX11_wetOf_5 (by decide) ?_
    cases hf
    exact r_iret C hP hS dX11_wetOf_11
def fX11_heap_104 (σ : St) (x4 : Int32) (x5 : Int32) (x6 : Int32) : Option (Int32 × St) :=
(wrK 256 σ 3 x6 x4 fun σ1 =>
(wrK 256 σ1 4 x6 x5 fun σ3 =>
some (1, σ3)))
set_option maxHeartbeats 4000000 in
theorem b_fX11_heap_104 {E : Ev} {l : Launch} {p : Program} {e : Env} {s : State} {m : MethodId} {args : Array Value} {below : List Frame} {meth : Method} {c : Code} (C : CX false E RX11 cX11_heap 7 (some .boolean) p s m args meth c) {rr : Int32} {sr : St} : ∀ (σ : St) (x4 : Int32) (x5 : Int32) (x6 : Int32), fX11_heap_104 σ x4 x5 x6 = some (rr, sr) → GW false l (rmD 3) E 7 p e s m args below meth c (MQ below (QI false E rr sr s.heap.size) args s 0 0 (aW false E s.heap.size)) σ 104 [(0, .ref (ea E 0)), (4, .int x4), (5, .int x5), (6, .int x6)] [] := by
  intro σ x4 x5 x6 hf H locs ls hP hS hl
  obtain ⟨hx, hb, hr, hml, hown, hts, hlocks, hK, hX, hj⟩ := id C
  unfold fX11_heap_104 at hf
  refine lv_aload_n hx hb dX11_heap_104 rfl (lv_at hl 0 rfl) ?_
  refine r_get (k := 5) (v := .ref (ea E 3)) C hP oM_0 rfl iX11 (by decide) wm_t1022 rfl rfl dX11_heap_105 ?_
  refine lv_iload hx hb dX11_heap_108 (lv_at hl 3 rfl) ?_
  refine lv_iload hx hb dX11_heap_110 (lv_at hl 1 rfl) ?_
  obtain ⟨h2, σ1, eσ1, hf⟩ := wrK_e hf
  refine r_ast C hP hS aM_3 h2 dX11_heap_112 (fun H locs hP hS => ?_)
  rw [← eσ1] at hP
  refine lv_aload_n hx hb dX11_heap_113 rfl (lv_at hl 0 rfl) ?_
  refine r_get (k := 6) (v := .ref (ea E 4)) C hP oM_0 rfl iX11 (by decide) wm_t1023 rfl rfl dX11_heap_114 ?_
  refine lv_iload hx hb dX11_heap_117 (lv_at hl 3 rfl) ?_
  refine lv_iload hx hb dX11_heap_119 (lv_at hl 2 rfl) ?_
  obtain ⟨h4, σ3, eσ3, hf⟩ := wrK_e hf
  refine r_ast C hP hS aM_4 h4 dX11_heap_121 (fun H locs hP hS => ?_)
  rw [← eσ3] at hP
  refine lv_iconst (v := 1) hx hb dX11_heap_122 (by decide) ?_
  cases hf
  exact r_zret C rfl hP hS dX11_heap_123
def fX11_heap_79 (σ : St) (x3 : Int32) (x4 : Int32) (x5 : Int32) (x6 : Int32) : Option (Int32 × St) :=
(if x4 = 0 then
(if 3 ≤ x3 then
fX11_heap_104 σ x4 x5 x6
else
(rdK 256 (σ 3) (x6 + 64) fun v3 =>
(if v3 ≤ 0 then
fX11_heap_104 σ x4 x5 x6
else
some (0, σ))))
else
fX11_heap_104 σ x4 x5 x6)
set_option maxHeartbeats 4000000 in
theorem b_fX11_heap_79 {E : Ev} {l : Launch} {p : Program} {e : Env} {s : State} {m : MethodId} {args : Array Value} {below : List Frame} {meth : Method} {c : Code} (C : CX false E RX11 cX11_heap 7 (some .boolean) p s m args meth c) {rr : Int32} {sr : St} : ∀ (σ : St) (x3 : Int32) (x4 : Int32) (x5 : Int32) (x6 : Int32), fX11_heap_79 σ x3 x4 x5 x6 = some (rr, sr) → GW false l (rmD 3) E 7 p e s m args below meth c (MQ below (QI false E rr sr s.heap.size) args s 0 0 (aW false E s.heap.size)) σ 79 [(0, .ref (ea E 0)), (3, .int x3), (4, .int x4), (5, .int x5), (6, .int x6)] [] := by
  intro σ x3 x4 x5 x6 hf H locs ls hP hS hl
  obtain ⟨hx, hb, hr, hml, hown, hts, hlocks, hK, hX, hj⟩ := id C
  unfold fX11_heap_79 at hf
  refine lv_iload hx hb dX11_heap_79 (lv_at hl 2 rfl) ?_
  refine lv_if_ne (tgt := 104) hx hb dX11_heap_81 (by decide) (fun c1 => ?_) (fun c1 => ?_)
  · replace hf := it_f c1 hf
    exact b_fX11_heap_104 C σ x4 x5 x6 hf H locs ls hP hS (lv_sub hl [0, 2, 3, 4] rfl)
  · replace hf := it_t c1 hf
    refine lv_iload_n hx hb dX11_heap_84 rfl (lv_at hl 1 rfl) ?_
    refine lv_iconst (v := 3) hx hb dX11_heap_85 (by decide) ?_
    refine lv_icmp_ge (tgt := 104) hx hb dX11_heap_86 (by decide) (fun c2 => ?_) (fun c2 => ?_)
    · replace hf := it_t c2 hf
      exact b_fX11_heap_104 C σ x4 x5 x6 hf H locs ls hP hS (lv_sub hl [0, 2, 3, 4] rfl)
    · replace hf := it_f c2 hf
      refine lv_aload_n hx hb dX11_heap_89 rfl (lv_at hl 0 rfl) ?_
      refine r_get (k := 5) (v := .ref (ea E 3)) C hP oM_0 rfl iX11 (by decide) wm_t1022 rfl rfl dX11_heap_90 ?_
      refine lv_iload hx hb dX11_heap_93 (lv_at hl 4 rfl) ?_
      refine lv_bipush (v := 64) hx hb dX11_heap_95 (by decide) ?_
      refine lv_iadd hx hb dX11_heap_97 ?_
      have h4 := (rdK_e hf).1
      refine r_ald C hP aM_3 h4 dX11_heap_98 ?_
      refine lv_topi (fun v3 ev3 => ?_)
      replace hf := rdK_n ev3 hf
      refine lv_if_le (tgt := 104) hx hb dX11_heap_99 (by decide) (fun c5 => ?_) (fun c5 => ?_)
      · replace hf := it_t c5 hf
        exact b_fX11_heap_104 C σ x4 x5 x6 hf H locs ls hP hS (lv_sub hl [0, 2, 3, 4] rfl)
      · replace hf := it_f c5 hf
        refine lv_iconst (v := 0) hx hb dX11_heap_102 (by decide) ?_
        cases hf
        exact r_zret C rfl hP hS dX11_heap_103
def fX11_heap_57 (σ : St) (x3 : Int32) (x4 : Int32) (x5 : Int32) (x6 : Int32) : Option (Int32 × St) :=
(if x4 ≤ 0 then
fX11_heap_79 σ x3 x4 x5 x6
else
(if x3 ≤ 0 then
fX11_heap_79 σ x3 x4 x5 x6
else
(rdK 256 (σ 3) (x6 - 64) fun v3 =>
(if v3 = 0 then
some (0, σ)
else
fX11_heap_79 σ x3 x4 x5 x6))))
set_option maxHeartbeats 4000000 in
theorem b_fX11_heap_57 {E : Ev} {l : Launch} {p : Program} {e : Env} {s : State} {m : MethodId} {args : Array Value} {below : List Frame} {meth : Method} {c : Code} (C : CX false E RX11 cX11_heap 7 (some .boolean) p s m args meth c) {rr : Int32} {sr : St} : ∀ (σ : St) (x3 : Int32) (x4 : Int32) (x5 : Int32) (x6 : Int32), fX11_heap_57 σ x3 x4 x5 x6 = some (rr, sr) → GW false l (rmD 3) E 7 p e s m args below meth c (MQ below (QI false E rr sr s.heap.size) args s 0 0 (aW false E s.heap.size)) σ 57 [(0, .ref (ea E 0)), (3, .int x3), (4, .int x4), (5, .int x5), (6, .int x6)] [] := by
  intro σ x3 x4 x5 x6 hf H locs ls hP hS hl
  obtain ⟨hx, hb, hr, hml, hown, hts, hlocks, hK, hX, hj⟩ := id C
  unfold fX11_heap_57 at hf
  refine lv_iload hx hb dX11_heap_57 (lv_at hl 2 rfl) ?_
  refine lv_if_le (tgt := 79) hx hb dX11_heap_59 (by decide) (fun c1 => ?_) (fun c1 => ?_)
  · replace hf := it_t c1 hf
    exact b_fX11_heap_79 C σ x3 x4 x5 x6 hf H locs ls hP hS (lv_sub hl [0, 1, 2, 3, 4] rfl)
  · replace hf := it_f c1 hf
    refine lv_iload_n hx hb dX11_heap_62 rfl (lv_at hl 1 rfl) ?_
    refine lv_if_le (tgt := 79) hx hb dX11_heap_63 (by decide) (fun c2 => ?_) (fun c2 => ?_)
    · replace hf := it_t c2 hf
      exact b_fX11_heap_79 C σ x3 x4 x5 x6 hf H locs ls hP hS (lv_sub hl [0, 1, 2, 3, 4] rfl)
    · replace hf := it_f c2 hf
      refine lv_aload_n hx hb dX11_heap_66 rfl (lv_at hl 0 rfl) ?_
      refine r_get (k := 5) (v := .ref (ea E 3)) C hP oM_0 rfl iX11 (by decide) wm_t1022 rfl rfl dX11_heap_67 ?_
      refine lv_iload hx hb dX11_heap_70 (lv_at hl 4 rfl) ?_
      refine lv_bipush (v := 64) hx hb dX11_heap_72 (by decide) ?_
      refine lv_isub hx hb dX11_heap_74 ?_
      have h4 := (rdK_e hf).1
      refine r_ald C hP aM_3 h4 dX11_heap_75 ?_
      refine lv_topi (fun v3 ev3 => ?_)
      replace hf := rdK_n ev3 hf
      refine lv_if_eq (tgt := 102) hx hb dX11_heap_76 (by decide) (fun c5 => ?_) (fun c5 => ?_)
      · replace hf := it_t c5 hf
        refine lv_iconst (v := 0) hx hb dX11_heap_102 (by decide) ?_
        cases hf
        exact r_zret C rfl hP hS dX11_heap_103
      · replace hf := it_f c5 hf
        exact b_fX11_heap_79 C σ x3 x4 x5 x6 hf H locs ls hP hS (lv_sub hl [0, 1, 2, 3, 4] rfl)
def fX11_heap (σ : St) (a0 : Int32) (a1 : Int32) (a2 : Int32) (a3 : Int32) (a4 : Int32) : Option (Int32 × St) :=
(nmS (st_put σ 0 0 0) fun σ1 =>
(if (fX11_heapAt a0 a1 a2) = (-1) then
some (0, σ1)
else
(if (fX11_isIn a3 0 99) = 0 then
some (0, σ1)
else
(if (fX11_isIn a4 0 9999) = 0 then
some (0, σ1)
else
(if a3 = 0 then
(if a4 ≤ 0 then
fX11_heap_57 σ1 a2 a3 a4 (fX11_heapAt a0 a1 a2)
else
some (0, σ1))
else
fX11_heap_57 σ1 a2 a3 a4 (fX11_heapAt a0 a1 a2))))))
set_option maxHeartbeats 4000000 in
theorem c_fX11_heap {E : Ev} {l : Launch} (hj : jW false E) (σ : St) (sz : Nat) (a0 : Int32) (a1 : Int32) (a2 : Int32) (a3 : Int32) (a4 : Int32) {rr : Int32} {sr : St} (hf : fX11_heap σ a0 a1 a2 a3 a4 = some (rr, sr)) : Met l yX11_heap (Cond.code yX11_heap cX11_heap 7 (some .boolean) :: gT) (rmD 3) (va_Pc [.ref (ea E 0), .int a0, .int a1, .int a2, .int a3, .int a4] (preW false E σ sz)) (QI false E rr sr sz) 0 0 (aW false E sz) := by
  refine r_entry (QI false E rr sr) hj (by decide) [.ref (ea E 0), .int a0, .int a1, .int a2, .int a3, .int a4] (Nat.le_of_ble_eq_true rfl) (fun p e s m args below meth c C => ?_)
  intro H locs ls hP hS hl
  have hl : lv_has ls 7 [(0, .ref (ea E 0)), (1, .int a0), (2, .int a1), (3, .int a2), (4, .int a3), (5, .int a4)] := hl
  obtain ⟨hx, hb, hr, hml, hown, hts, hlocks, hK, hX, hj⟩ := id C
  unfold fX11_heap at hf
  refine lv_aload_n hx hb dX11_heap_0 rfl (lv_at hl 0 rfl) ?_
  refine lv_iconst (v := 0) hx hb dX11_heap_1 (by decide) ?_
  refine r_put (k := 0) (x := 0) C hP hS tyX11 tyX11_ok nmX11 oM_0 rfl iX11 (by decide) wm_t1017 rfl rfl sM_0_0 rfl rfl (Nat.le_of_ble_eq_true rfl) dX11_heap_2 (fun H locs hP hS => ?_)
  obtain ⟨σ1, eσ1, hf⟩ := nmS_e hf
  rw [← eσ1] at hP
  refine lv_aload_n hx hb dX11_heap_5 rfl (lv_at hl 0 rfl) ?_
  refine lv_iload_n hx hb dX11_heap_6 rfl (lv_at hl 1 rfl) ?_
  refine lv_iload_n hx hb dX11_heap_7 rfl (lv_at hl 2 rfl) ?_
  refine lv_iload_n hx hb dX11_heap_8 rfl (lv_at hl 3 rfl) ?_
  refine r_cVi (n := 3) (As := [.int a0, .int a1, .int a2]) (rest := []) C (c_fX11_heapAt hj σ1 H.size a0 a1 a2) oM_0 rfl gv_RX11_151 (by decide +kernel) (rmD_le (by decide) (by decide)) rfl rfl (Nat.le_of_ble_eq_true rfl) dX11_heap_9 hP hS hl.1 (fun H locs hP hS => ?_)
  refine lv_istore (lv' := [(6, .int (fX11_heapAt a0 a1 a2)), (0, .ref (ea E 0)), (1, .int a0), (2, .int a1), (3, .int a2), (4, .int a3), (5, .int a4)]) hx hb dX11_heap_12 hl (by decide) rfl (fun ls hl => ?_)
  refine lv_iload hx hb dX11_heap_14 (lv_at hl 0 rfl) ?_
  refine lv_iconst (v := (-1)) hx hb dX11_heap_16 (by decide) ?_
  refine lv_icmp_eq (tgt := 55) hx hb dX11_heap_17 (by decide) (fun c2 => ?_) (fun c2 => ?_)
  · replace hf := it_t c2 hf
    refine lv_iconst (v := 0) hx hb dX11_heap_55 (by decide) ?_
    cases hf
    exact r_zret C rfl hP hS dX11_heap_56
  · replace hf := it_f c2 hf
    refine lv_aload_n hx hb dX11_heap_20 rfl (lv_at hl 1 rfl) ?_
    refine lv_iload hx hb dX11_heap_21 (lv_at hl 5 rfl) ?_
    refine lv_iconst (v := 0) hx hb dX11_heap_23 (by decide) ?_
    refine lv_bipush (v := 99) hx hb dX11_heap_24 (by decide) ?_
    refine r_cVi (n := 3) (As := [.int a3, .int 0, .int 99]) (rest := []) C (c_fX11_isIn hj σ1 H.size a3 0 99) oM_0 rfl gv_RX11_144 (by decide +kernel) (rmD_le (by decide) (by decide)) rfl rfl (Nat.le_of_ble_eq_true rfl) dX11_heap_26 hP hS hl.1 (fun H locs hP hS => ?_)
    refine lv_if_eq (tgt := 55) hx hb dX11_heap_29 (by decide) (fun c3 => ?_) (fun c3 => ?_)
    · replace hf := it_t c3 hf
      refine lv_iconst (v := 0) hx hb dX11_heap_55 (by decide) ?_
      cases hf
      exact r_zret C rfl hP hS dX11_heap_56
    · replace hf := it_f c3 hf
      refine lv_aload_n hx hb dX11_heap_32 rfl (lv_at hl 1 rfl) ?_
      refine lv_iload hx hb dX11_heap_33 (lv_at hl 6 rfl) ?_
      refine lv_iconst (v := 0) hx hb dX11_heap_35 (by decide) ?_
      refine lv_sipush (v := 9999) hx hb dX11_heap_36 (by decide) ?_
      refine r_cVi (n := 3) (As := [.int a4, .int 0, .int 9999]) (rest := []) C (c_fX11_isIn hj σ1 H.size a4 0 9999) oM_0 rfl gv_RX11_144 (by decide +kernel) (rmD_le (by decide) (by decide)) rfl rfl (Nat.le_of_ble_eq_true rfl) dX11_heap_39 hP hS hl.1 (fun H locs hP hS => ?_)
      refine lv_if_eq (tgt := 55) hx hb dX11_heap_42 (by decide) (fun c4 => ?_) (fun c4 => ?_)
      · replace hf := it_t c4 hf
        refine lv_iconst (v := 0) hx hb dX11_heap_55 (by decide) ?_
        cases hf
        exact r_zret C rfl hP hS dX11_heap_56
      · replace hf := it_f c4 hf
        refine lv_iload hx hb dX11_heap_45 (lv_at hl 5 rfl) ?_
        refine lv_if_ne (tgt := 57) hx hb dX11_heap_47 (by decide) (fun c5 => ?_) (fun c5 => ?_)
        · replace hf := it_f c5 hf
          exact b_fX11_heap_57 C σ1 a2 a3 a4 (fX11_heapAt a0 a1 a2) hf H locs ls hP hS (lv_sub hl [1, 4, 5, 6, 0] rfl)
        · replace hf := it_t c5 hf
          refine lv_iload hx hb dX11_heap_50 (lv_at hl 6 rfl) ?_
          refine lv_if_le (tgt := 57) hx hb dX11_heap_52 (by decide) (fun c6 => ?_) (fun c6 => ?_)
          · replace hf := it_t c6 hf
            exact b_fX11_heap_57 C σ1 a2 a3 a4 (fX11_heapAt a0 a1 a2) hf H locs ls hP hS (lv_sub hl [1, 4, 5, 6, 0] rfl)
          · replace hf := it_f c6 hf
            refine lv_iconst (v := 0) hx hb dX11_heap_55 (by decide) ?_
            cases hf
            exact r_zret C rfl hP hS dX11_heap_56
def fX11_cell_96 (σ : St) (x1 : Int32) (x5 : Int32) (x6 : Int32) (x7 : Int32) (y0 : Int32) : Option (Int32 × St) :=
(if x5 = 0 then
some (x7, σ)
else
(if x5 = 1 then
some (y0, σ)
else
(if x5 = 2 then
(cq (fX11_wetOf x7 y0) fun r11 =>
some (r11, σ))
else
(if x1 = (-1) then
some (0, σ)
else
(if x5 = 3 then
(rdK 288 (σ 7) x6 fun v9 =>
some (v9, σ))
else
(rdK 288 (σ 8) x6 fun v6 =>
(if v6 = 0 then
some (0, σ)
else
some (1, σ))))))))
set_option maxHeartbeats 4000000 in
theorem b_fX11_cell_96 {E : Ev} {l : Launch} {p : Program} {e : Env} {s : State} {m : MethodId} {args : Array Value} {below : List Frame} {meth : Method} {c : Code} (C : CX false E RX11 cX11_cell 9 (some .int) p s m args meth c) {rr : Int32} {sr : St} : ∀ (σ : St) (x1 : Int32) (x5 : Int32) (x6 : Int32) (x7 : Int32) (y0 : Int32), fX11_cell_96 σ x1 x5 x6 x7 y0 = some (rr, sr) → GW false l (rmD 3) E 9 p e s m args below meth c (MQ below (QI false E rr sr s.heap.size) args s 0 0 (aW false E s.heap.size)) σ 96 [(0, .ref (ea E 0)), (1, .int x1), (5, .int x5), (6, .int x6), (7, .int x7)] [.int y0] := by
  intro σ x1 x5 x6 x7 y0 hf H locs ls hP hS hl
  obtain ⟨hx, hb, hr, hml, hown, hts, hlocks, hK, hX, hj⟩ := id C
  unfold fX11_cell_96 at hf
  refine lv_istore (lv' := [(8, .int y0), (0, .ref (ea E 0)), (1, .int x1), (5, .int x5), (6, .int x6), (7, .int x7)]) hx hb dX11_cell_96 hl (by decide) rfl (fun ls hl => ?_)
  refine lv_iload hx hb dX11_cell_98 (lv_at hl 3 rfl) ?_
  refine lv_if_ne (tgt := 106) hx hb dX11_cell_100 (by decide) (fun c1 => ?_) (fun c1 => ?_)
  · replace hf := it_f c1 hf
    refine lv_iload hx hb dX11_cell_106 (lv_at hl 3 rfl) ?_
    refine lv_iconst (v := 1) hx hb dX11_cell_108 (by decide) ?_
    refine lv_icmp_ne (tgt := 115) hx hb dX11_cell_109 (by decide) (fun c2 => ?_) (fun c2 => ?_)
    · replace hf := it_f c2 hf
      refine lv_iload hx hb dX11_cell_115 (lv_at hl 3 rfl) ?_
      refine lv_iconst (v := 2) hx hb dX11_cell_117 (by decide) ?_
      refine lv_icmp_ne (tgt := 130) hx hb dX11_cell_118 (by decide) (fun c3 => ?_) (fun c3 => ?_)
      · replace hf := it_f c3 hf
        refine lv_iload_n hx hb dX11_cell_130 rfl (lv_at hl 2 rfl) ?_
        refine lv_iconst (v := (-1)) hx hb dX11_cell_131 (by decide) ?_
        refine lv_icmp_ne (tgt := 137) hx hb dX11_cell_132 (by decide) (fun c4 => ?_) (fun c4 => ?_)
        · replace hf := it_f c4 hf
          refine lv_iload hx hb dX11_cell_137 (lv_at hl 3 rfl) ?_
          refine lv_iconst (v := 3) hx hb dX11_cell_139 (by decide) ?_
          refine lv_icmp_ne (tgt := 153) hx hb dX11_cell_140 (by decide) (fun c5 => ?_) (fun c5 => ?_)
          · replace hf := it_f c5 hf
            refine lv_aload_n hx hb dX11_cell_153 rfl (lv_at hl 1 rfl) ?_
            refine r_get (k := 10) (v := .ref (ea E 8)) C hP oM_0 rfl iX11 (by decide) wm_t1027 rfl rfl dX11_cell_154 ?_
            refine lv_iload hx hb dX11_cell_157 (lv_at hl 4 rfl) ?_
            have h7 := (rdK_e hf).1
            refine r_zald C hP aM_8 h7 dX11_cell_159 ?_
            refine lv_topi (fun v6 ev6 => ?_)
            replace hf := rdK_n ev6 hf
            refine lv_if_eq (tgt := 167) hx hb dX11_cell_160 (by decide) (fun c8 => ?_) (fun c8 => ?_)
            · replace hf := it_t c8 hf
              refine lv_iconst (v := 0) hx hb dX11_cell_167 (by decide) ?_
              cases hf
              exact r_iret C hP hS dX11_cell_168
            · replace hf := it_f c8 hf
              refine lv_iconst (v := 1) hx hb dX11_cell_163 (by decide) ?_
              refine lv_goto (tgt := 168) hx hb dX11_cell_164 (by decide) ?_
              cases hf
              exact r_iret C hP hS dX11_cell_168
          · replace hf := it_t c5 hf
            refine lv_aload_n hx hb dX11_cell_143 rfl (lv_at hl 1 rfl) ?_
            refine r_get (k := 9) (v := .ref (ea E 7)) C hP oM_0 rfl iX11 (by decide) wm_t1026 rfl rfl dX11_cell_144 ?_
            refine lv_iload hx hb dX11_cell_147 (lv_at hl 4 rfl) ?_
            have h10 := (rdK_e hf).1
            refine r_ald C hP aM_7 h10 dX11_cell_149 ?_
            refine lv_topi (fun v9 ev9 => ?_)
            replace hf := rdK_n ev9 hf
            refine lv_goto (tgt := 168) hx hb dX11_cell_150 (by decide) ?_
            cases hf
            exact r_iret C hP hS dX11_cell_168
        · replace hf := it_t c4 hf
          refine lv_iconst (v := 0) hx hb dX11_cell_135 (by decide) ?_
          cases hf
          exact r_iret C hP hS dX11_cell_136
      · replace hf := it_t c3 hf
        refine lv_aload_n hx hb dX11_cell_121 rfl (lv_at hl 1 rfl) ?_
        refine lv_iload hx hb dX11_cell_122 (lv_at hl 5 rfl) ?_
        refine lv_iload hx hb dX11_cell_124 (lv_at hl 0 rfl) ?_
        obtain ⟨r11, hc12, hf⟩ := cq_e hf
        refine r_cVi (n := 2) (As := [.int x7, .int y0]) (rest := []) C (c_fX11_wetOf hj σ H.size x7 y0 hc12) oM_0 rfl gv_RX11_158 (by decide +kernel) (rmD_le (by decide) (by decide)) rfl rfl (Nat.le_of_ble_eq_true rfl) dX11_cell_126 hP hS hl.1 (fun H locs hP hS => ?_)
        cases hf
        exact r_iret C hP hS dX11_cell_129
    · replace hf := it_t c2 hf
      refine lv_iload hx hb dX11_cell_112 (lv_at hl 0 rfl) ?_
      cases hf
      exact r_iret C hP hS dX11_cell_114
  · replace hf := it_t c1 hf
    refine lv_iload hx hb dX11_cell_103 (lv_at hl 5 rfl) ?_
    cases hf
    exact r_iret C hP hS dX11_cell_105
def fX11_cell_72 (σ : St) (x1 : Int32) (x5 : Int32) (x6 : Int32) (y0 : Int32) : Option (Int32 × St) :=
(if x1 = (-1) then
(rdK 256 (σ 4) x6 fun v4 =>
fX11_cell_96 σ x1 x5 x6 y0 v4)
else
(rdK 288 (σ 6) x6 fun v2 =>
fX11_cell_96 σ x1 x5 x6 y0 v2))
set_option maxHeartbeats 4000000 in
theorem b_fX11_cell_72 {E : Ev} {l : Launch} {p : Program} {e : Env} {s : State} {m : MethodId} {args : Array Value} {below : List Frame} {meth : Method} {c : Code} (C : CX false E RX11 cX11_cell 9 (some .int) p s m args meth c) {rr : Int32} {sr : St} : ∀ (σ : St) (x1 : Int32) (x5 : Int32) (x6 : Int32) (y0 : Int32), fX11_cell_72 σ x1 x5 x6 y0 = some (rr, sr) → GW false l (rmD 3) E 9 p e s m args below meth c (MQ below (QI false E rr sr s.heap.size) args s 0 0 (aW false E s.heap.size)) σ 72 [(0, .ref (ea E 0)), (1, .int x1), (5, .int x5), (6, .int x6)] [.int y0] := by
  intro σ x1 x5 x6 y0 hf H locs ls hP hS hl
  obtain ⟨hx, hb, hr, hml, hown, hts, hlocks, hK, hX, hj⟩ := id C
  unfold fX11_cell_72 at hf
  refine lv_istore (lv' := [(7, .int y0), (0, .ref (ea E 0)), (1, .int x1), (5, .int x5), (6, .int x6)]) hx hb dX11_cell_72 hl (by decide) rfl (fun ls hl => ?_)
  refine lv_iload_n hx hb dX11_cell_74 rfl (lv_at hl 2 rfl) ?_
  refine lv_iconst (v := (-1)) hx hb dX11_cell_75 (by decide) ?_
  refine lv_icmp_ne (tgt := 89) hx hb dX11_cell_76 (by decide) (fun c1 => ?_) (fun c1 => ?_)
  · replace hf := it_f c1 hf
    refine lv_aload_n hx hb dX11_cell_89 rfl (lv_at hl 1 rfl) ?_
    refine r_get (k := 8) (v := .ref (ea E 6)) C hP oM_0 rfl iX11 (by decide) wm_t1025 rfl rfl dX11_cell_90 ?_
    refine lv_iload hx hb dX11_cell_93 (lv_at hl 4 rfl) ?_
    have h3 := (rdK_e hf).1
    refine r_ald C hP aM_6 h3 dX11_cell_95 ?_
    refine lv_topi (fun v2 ev2 => ?_)
    replace hf := rdK_n ev2 hf
    exact b_fX11_cell_96 C σ x1 x5 x6 y0 v2 hf H locs ls hP hS (lv_sub hl [1, 2, 3, 4, 0] rfl)
  · replace hf := it_t c1 hf
    refine lv_aload_n hx hb dX11_cell_79 rfl (lv_at hl 1 rfl) ?_
    refine r_get (k := 6) (v := .ref (ea E 4)) C hP oM_0 rfl iX11 (by decide) wm_t1023 rfl rfl dX11_cell_80 ?_
    refine lv_iload hx hb dX11_cell_83 (lv_at hl 4 rfl) ?_
    have h5 := (rdK_e hf).1
    refine r_ald C hP aM_4 h5 dX11_cell_85 ?_
    refine lv_topi (fun v4 ev4 => ?_)
    replace hf := rdK_n ev4 hf
    refine lv_goto (tgt := 96) hx hb dX11_cell_86 (by decide) ?_
    exact b_fX11_cell_96 C σ x1 x5 x6 y0 v4 hf H locs ls hP hS (lv_sub hl [1, 2, 3, 4, 0] rfl)
def fX11_cell_29 (σ : St) (x1 : Int32) (x5 : Int32) (y0 : Int32) : Option (Int32 × St) :=
(if y0 = (-1) then
some ((-1), σ)
else
(if (fX11_isIn x5 0 4) = 0 then
some ((-1), σ)
else
(if x1 = (-1) then
(rdK 256 (σ 3) y0 fun v6 =>
fX11_cell_72 σ x1 x5 y0 v6)
else
(rdK 288 (σ 5) y0 fun v4 =>
fX11_cell_72 σ x1 x5 y0 v4))))
set_option maxHeartbeats 4000000 in
theorem b_fX11_cell_29 {E : Ev} {l : Launch} {p : Program} {e : Env} {s : State} {m : MethodId} {args : Array Value} {below : List Frame} {meth : Method} {c : Code} (C : CX false E RX11 cX11_cell 9 (some .int) p s m args meth c) {rr : Int32} {sr : St} : ∀ (σ : St) (x1 : Int32) (x5 : Int32) (y0 : Int32), fX11_cell_29 σ x1 x5 y0 = some (rr, sr) → GW false l (rmD 3) E 9 p e s m args below meth c (MQ below (QI false E rr sr s.heap.size) args s 0 0 (aW false E s.heap.size)) σ 29 [(0, .ref (ea E 0)), (1, .int x1), (5, .int x5)] [.int y0] := by
  intro σ x1 x5 y0 hf H locs ls hP hS hl
  obtain ⟨hx, hb, hr, hml, hown, hts, hlocks, hK, hX, hj⟩ := id C
  unfold fX11_cell_29 at hf
  refine lv_istore (lv' := [(6, .int y0), (0, .ref (ea E 0)), (1, .int x1), (5, .int x5)]) hx hb dX11_cell_29 hl (by decide) rfl (fun ls hl => ?_)
  refine lv_iload hx hb dX11_cell_31 (lv_at hl 0 rfl) ?_
  refine lv_iconst (v := (-1)) hx hb dX11_cell_33 (by decide) ?_
  refine lv_icmp_eq (tgt := 48) hx hb dX11_cell_34 (by decide) (fun c1 => ?_) (fun c1 => ?_)
  · replace hf := it_t c1 hf
    refine lv_iconst (v := (-1)) hx hb dX11_cell_48 (by decide) ?_
    cases hf
    exact r_iret C hP hS dX11_cell_49
  · replace hf := it_f c1 hf
    refine lv_aload_n hx hb dX11_cell_37 rfl (lv_at hl 1 rfl) ?_
    refine lv_iload hx hb dX11_cell_38 (lv_at hl 3 rfl) ?_
    refine lv_iconst (v := 0) hx hb dX11_cell_40 (by decide) ?_
    refine lv_iconst (v := 4) hx hb dX11_cell_41 (by decide) ?_
    refine r_cVi (n := 3) (As := [.int x5, .int 0, .int 4]) (rest := []) C (c_fX11_isIn hj σ H.size x5 0 4) oM_0 rfl gv_RX11_144 (by decide +kernel) (rmD_le (by decide) (by decide)) rfl rfl (Nat.le_of_ble_eq_true rfl) dX11_cell_42 hP hS hl.1 (fun H locs hP hS => ?_)
    refine lv_if_ne (tgt := 50) hx hb dX11_cell_45 (by decide) (fun c2 => ?_) (fun c2 => ?_)
    · replace hf := it_f c2 hf
      refine lv_iload_n hx hb dX11_cell_50 rfl (lv_at hl 2 rfl) ?_
      refine lv_iconst (v := (-1)) hx hb dX11_cell_51 (by decide) ?_
      refine lv_icmp_ne (tgt := 65) hx hb dX11_cell_52 (by decide) (fun c3 => ?_) (fun c3 => ?_)
      · replace hf := it_f c3 hf
        refine lv_aload_n hx hb dX11_cell_65 rfl (lv_at hl 1 rfl) ?_
        refine r_get (k := 7) (v := .ref (ea E 5)) C hP oM_0 rfl iX11 (by decide) wm_t1024 rfl rfl dX11_cell_66 ?_
        refine lv_iload hx hb dX11_cell_69 (lv_at hl 0 rfl) ?_
        have h5 := (rdK_e hf).1
        refine r_ald C hP aM_5 h5 dX11_cell_71 ?_
        refine lv_topi (fun v4 ev4 => ?_)
        replace hf := rdK_n ev4 hf
        exact b_fX11_cell_72 C σ x1 x5 y0 v4 hf H locs ls hP hS (lv_sub hl [1, 2, 3, 0] rfl)
      · replace hf := it_t c3 hf
        refine lv_aload_n hx hb dX11_cell_55 rfl (lv_at hl 1 rfl) ?_
        refine r_get (k := 5) (v := .ref (ea E 3)) C hP oM_0 rfl iX11 (by decide) wm_t1022 rfl rfl dX11_cell_56 ?_
        refine lv_iload hx hb dX11_cell_59 (lv_at hl 0 rfl) ?_
        have h7 := (rdK_e hf).1
        refine r_ald C hP aM_3 h7 dX11_cell_61 ?_
        refine lv_topi (fun v6 ev6 => ?_)
        replace hf := rdK_n ev6 hf
        refine lv_goto (tgt := 72) hx hb dX11_cell_62 (by decide) ?_
        exact b_fX11_cell_72 C σ x1 x5 y0 v6 hf H locs ls hP hS (lv_sub hl [1, 2, 3, 0] rfl)
    · replace hf := it_t c2 hf
      refine lv_iconst (v := (-1)) hx hb dX11_cell_48 (by decide) ?_
      cases hf
      exact r_iret C hP hS dX11_cell_49
def fX11_cell (σ : St) (a0 : Int32) (a1 : Int32) (a2 : Int32) (a3 : Int32) (a4 : Int32) : Option (Int32 × St) :=
(nmS (st_put σ 0 0 0) fun σ1 =>
(if a0 = (-1) then
fX11_cell_29 σ1 a0 a4 (fX11_heapAt a1 a2 a3)
else
fX11_cell_29 σ1 a0 a4 (fX11_holdAt a0 a1 a3)))
set_option maxHeartbeats 4000000 in
theorem c_fX11_cell {E : Ev} {l : Launch} (hj : jW false E) (σ : St) (sz : Nat) (a0 : Int32) (a1 : Int32) (a2 : Int32) (a3 : Int32) (a4 : Int32) {rr : Int32} {sr : St} (hf : fX11_cell σ a0 a1 a2 a3 a4 = some (rr, sr)) : Met l yX11_cell (Cond.code yX11_cell cX11_cell 9 (some .int) :: gT) (rmD 3) (va_Pc [.ref (ea E 0), .int a0, .int a1, .int a2, .int a3, .int a4] (preW false E σ sz)) (QI false E rr sr sz) 0 0 (aW false E sz) := by
  refine r_entry (QI false E rr sr) hj (by decide) [.ref (ea E 0), .int a0, .int a1, .int a2, .int a3, .int a4] (Nat.le_of_ble_eq_true rfl) (fun p e s m args below meth c C => ?_)
  intro H locs ls hP hS hl
  have hl : lv_has ls 9 [(0, .ref (ea E 0)), (1, .int a0), (2, .int a1), (3, .int a2), (4, .int a3), (5, .int a4)] := hl
  obtain ⟨hx, hb, hr, hml, hown, hts, hlocks, hK, hX, hj⟩ := id C
  unfold fX11_cell at hf
  refine lv_aload_n hx hb dX11_cell_0 rfl (lv_at hl 0 rfl) ?_
  refine lv_iconst (v := 0) hx hb dX11_cell_1 (by decide) ?_
  refine r_put (k := 0) (x := 0) C hP hS tyX11 tyX11_ok nmX11 oM_0 rfl iX11 (by decide) wm_t1017 rfl rfl sM_0_0 rfl rfl (Nat.le_of_ble_eq_true rfl) dX11_cell_2 (fun H locs hP hS => ?_)
  obtain ⟨σ1, eσ1, hf⟩ := nmS_e hf
  rw [← eσ1] at hP
  refine lv_iload_n hx hb dX11_cell_5 rfl (lv_at hl 1 rfl) ?_
  refine lv_iconst (v := (-1)) hx hb dX11_cell_6 (by decide) ?_
  refine lv_icmp_ne (tgt := 21) hx hb dX11_cell_7 (by decide) (fun c2 => ?_) (fun c2 => ?_)
  · replace hf := it_f c2 hf
    refine lv_aload_n hx hb dX11_cell_21 rfl (lv_at hl 0 rfl) ?_
    refine lv_iload_n hx hb dX11_cell_22 rfl (lv_at hl 1 rfl) ?_
    refine lv_iload_n hx hb dX11_cell_23 rfl (lv_at hl 2 rfl) ?_
    refine lv_iload hx hb dX11_cell_24 (lv_at hl 4 rfl) ?_
    refine r_cVi (n := 3) (As := [.int a0, .int a1, .int a3]) (rest := []) C (c_fX11_holdAt hj σ1 H.size a0 a1 a3) oM_0 rfl gv_RX11_155 (by decide +kernel) (rmD_le (by decide) (by decide)) rfl rfl (Nat.le_of_ble_eq_true rfl) dX11_cell_26 hP hS hl.1 (fun H locs hP hS => ?_)
    exact b_fX11_cell_29 C σ1 a0 a4 (fX11_holdAt a0 a1 a3) hf H locs ls hP hS (lv_sub hl [0, 1, 5] rfl)
  · replace hf := it_t c2 hf
    refine lv_aload_n hx hb dX11_cell_10 rfl (lv_at hl 0 rfl) ?_
    refine lv_iload_n hx hb dX11_cell_11 rfl (lv_at hl 2 rfl) ?_
    refine lv_iload_n hx hb dX11_cell_12 rfl (lv_at hl 3 rfl) ?_
    refine lv_iload hx hb dX11_cell_13 (lv_at hl 4 rfl) ?_
    refine r_cVi (n := 3) (As := [.int a1, .int a2, .int a3]) (rest := []) C (c_fX11_heapAt hj σ1 H.size a1 a2 a3) oM_0 rfl gv_RX11_151 (by decide +kernel) (rmD_le (by decide) (by decide)) rfl rfl (Nat.le_of_ble_eq_true rfl) dX11_cell_15 hP hS hl.1 (fun H locs hP hS => ?_)
    refine lv_goto (tgt := 29) hx hb dX11_cell_18 (by decide) ?_
    exact b_fX11_cell_29 C σ1 a0 a4 (fX11_heapAt a1 a2 a3) hf H locs ls hP hS (lv_sub hl [0, 1, 5] rfl)
def fX11_heapHeight_2B (σ : St) (rec2 : Int32 → Int32 → Option Int32) (x1 : Int32) (x2 : Int32) : Option Int32 :=
(if 4 ≤ x2 then
some x2
else
(rdK 256 (σ 3) ((64 * x2) + x1) fun v2 =>
(if v2 ≤ 0 then
some x2
else
rec2 x1 (x2 + 1))))
set_option maxHeartbeats 4000000 in
theorem b_fX11_heapHeight_2B {E : Ev} {l : Launch} {p : Program} {e : Env} {s : State} {m : MethodId} {args : Array Value} {below : List Frame} {meth : Method} {c : Code} (σ : St) (C : CX false E RX11 cX11_heapHeight 3 (some .int) p s m args meth c) {rr : Int32} (rec2 : Int32 → Int32 → Option Int32) (hr2 : ∀  (x1 : Int32) (x2 : Int32), rec2 x1 x2 = some rr → GW false l (rmD 1) E 3 p e s m args below meth c (MQ below (QI false E rr σ s.heap.size) args s 0 0 (aW false E s.heap.size)) σ 2 [(0, .ref (ea E 0)), (1, .int x1), (2, .int x2)] []) : ∀  (x1 : Int32) (x2 : Int32), fX11_heapHeight_2B σ rec2 x1 x2 = some rr → GW false l (rmD 1) E 3 p e s m args below meth c (MQ below (QI false E rr σ s.heap.size) args s 0 0 (aW false E s.heap.size)) σ 2 [(0, .ref (ea E 0)), (1, .int x1), (2, .int x2)] [] := by
  intro x1 x2 hf H locs ls hP hS hl
  obtain ⟨hx, hb, hr, hml, hown, hts, hlocks, hK, hX, hj⟩ := id C
  unfold fX11_heapHeight_2B at hf
  refine lv_iload_n hx hb dX11_heapHeight_2 rfl (lv_at hl 2 rfl) ?_
  refine lv_iconst (v := 4) hx hb dX11_heapHeight_3 (by decide) ?_
  refine lv_icmp_ge (tgt := 28) hx hb dX11_heapHeight_4 (by decide) (fun c1 => ?_) (fun c1 => ?_)
  · replace hf := it_t c1 hf
    refine lv_iload_n hx hb dX11_heapHeight_28 rfl (lv_at hl 2 rfl) ?_
    cases hf
    exact r_iret C hP hS dX11_heapHeight_29
  · replace hf := it_f c1 hf
    refine lv_aload_n hx hb dX11_heapHeight_7 rfl (lv_at hl 0 rfl) ?_
    refine r_get (k := 5) (v := .ref (ea E 3)) C hP oM_0 rfl iX11 (by decide) wm_t1022 rfl rfl dX11_heapHeight_8 ?_
    refine lv_bipush (v := 64) hx hb dX11_heapHeight_11 (by decide) ?_
    refine lv_iload_n hx hb dX11_heapHeight_13 rfl (lv_at hl 2 rfl) ?_
    refine lv_imul hx hb dX11_heapHeight_14 ?_
    refine lv_iload_n hx hb dX11_heapHeight_15 rfl (lv_at hl 1 rfl) ?_
    refine lv_iadd hx hb dX11_heapHeight_16 ?_
    have h3 := (rdK_e hf).1
    refine r_ald C hP aM_3 h3 dX11_heapHeight_17 ?_
    refine lv_topi (fun v2 ev2 => ?_)
    replace hf := rdK_n ev2 hf
    refine lv_if_le (tgt := 28) hx hb dX11_heapHeight_18 (by decide) (fun c4 => ?_) (fun c4 => ?_)
    · replace hf := it_t c4 hf
      refine lv_iload_n hx hb dX11_heapHeight_28 rfl (lv_at hl 2 rfl) ?_
      cases hf
      exact r_iret C hP hS dX11_heapHeight_29
    · replace hf := it_f c4 hf
      refine lv_iload_n hx hb dX11_heapHeight_21 rfl (lv_at hl 2 rfl) ?_
      refine lv_iconst (v := 1) hx hb dX11_heapHeight_22 (by decide) ?_
      refine lv_iadd hx hb dX11_heapHeight_23 ?_
      refine lv_istore_n (lv' := [(2, .int (x2 + 1)), (0, .ref (ea E 0)), (1, .int x1)]) hx hb dX11_heapHeight_24 rfl hl (by decide) rfl (fun ls hl => ?_)
      refine lv_goto (tgt := 2) hx hb dX11_heapHeight_25 (by decide) ?_
      exact hr2 x1 (x2 + 1) hf H locs ls hP hS (lv_sub hl [1, 2, 0] rfl)
def fX11_heapHeight_2 (σ : St) : Nat → Int32 → Int32 → Option Int32
  | 0 => fun _ _ => none
  | n + 1 => fun x1 x2 => fX11_heapHeight_2B σ (fX11_heapHeight_2 σ n) x1 x2
theorem b_fX11_heapHeight_2 {E : Ev} {l : Launch} {p : Program} {e : Env} {s : State} {m : MethodId} {args : Array Value} {below : List Frame} {meth : Method} {c : Code} (σ : St) (C : CX false E RX11 cX11_heapHeight 3 (some .int) p s m args meth c) {rr : Int32} : ∀ (n : Nat) (x1 : Int32) (x2 : Int32), fX11_heapHeight_2 σ n x1 x2 = some rr → GW false l (rmD 1) E 3 p e s m args below meth c (MQ below (QI false E rr σ s.heap.size) args s 0 0 (aW false E s.heap.size)) σ 2 [(0, .ref (ea E 0)), (1, .int x1), (2, .int x2)] [] := by
  intro n
  induction n with
  | zero => intro x1 x2 hf; have hf : (none : Option _) = some _ := hf; cases hf
  | succ n ih => intro x1 x2 hf; exact b_fX11_heapHeight_2B σ C (fX11_heapHeight_2 σ n) ih x1 x2 hf
def fX11_heapHeight (σ : St) (a0 : Int32) : Option Int32 :=
fX11_heapHeight_2 σ FU a0 0
set_option maxHeartbeats 4000000 in
theorem c_fX11_heapHeight {E : Ev} {l : Launch} (hj : jW false E) (σ : St) (sz : Nat) (a0 : Int32) {rr : Int32} (hf : fX11_heapHeight σ a0 = some rr) : Met l yX11_heapHeight (Cond.code yX11_heapHeight cX11_heapHeight 3 (some .int) :: gT) (rmD 1) (va_Pc [.ref (ea E 0), .int a0] (preW false E σ sz)) (QI false E rr σ sz) 0 0 (aW false E sz) := by
  refine r_entry (QI false E rr σ) hj (by decide) [.ref (ea E 0), .int a0] (Nat.le_of_ble_eq_true rfl) (fun p e s m args below meth c C => ?_)
  intro H locs ls hP hS hl
  have hl : lv_has ls 3 [(0, .ref (ea E 0)), (1, .int a0)] := hl
  obtain ⟨hx, hb, hr, hml, hown, hts, hlocks, hK, hX, hj⟩ := id C
  unfold fX11_heapHeight at hf
  refine lv_iconst (v := 0) hx hb dX11_heapHeight_0 (by decide) ?_
  refine lv_istore_n (lv' := [(2, .int 0), (0, .ref (ea E 0)), (1, .int a0)]) hx hb dX11_heapHeight_1 rfl hl (by decide) rfl (fun ls hl => ?_)
  exact b_fX11_heapHeight_2 σ C FU a0 0 hf H locs ls hP hS (lv_sub hl [1, 2, 0] rfl)
def fX11_height_2B (σ : St) (rec2 : Int32 → Int32 → Option Int32) (x1 : Int32) (x2 : Int32) : Option Int32 :=
(if 6 ≤ x2 then
some x2
else
(rdK 288 (σ 5) (x1 + x2) fun v2 =>
(if v2 ≤ 0 then
some x2
else
rec2 x1 (x2 + 1))))
set_option maxHeartbeats 4000000 in
theorem b_fX11_height_2B {E : Ev} {l : Launch} {p : Program} {e : Env} {s : State} {m : MethodId} {args : Array Value} {below : List Frame} {meth : Method} {c : Code} (σ : St) (C : CX false E RX11 cX11_height 3 (some .int) p s m args meth c) {rr : Int32} (rec2 : Int32 → Int32 → Option Int32) (hr2 : ∀  (x1 : Int32) (x2 : Int32), rec2 x1 x2 = some rr → GW false l (rmD 1) E 3 p e s m args below meth c (MQ below (QI false E rr σ s.heap.size) args s 0 0 (aW false E s.heap.size)) σ 2 [(0, .ref (ea E 0)), (1, .int x1), (2, .int x2)] []) : ∀  (x1 : Int32) (x2 : Int32), fX11_height_2B σ rec2 x1 x2 = some rr → GW false l (rmD 1) E 3 p e s m args below meth c (MQ below (QI false E rr σ s.heap.size) args s 0 0 (aW false E s.heap.size)) σ 2 [(0, .ref (ea E 0)), (1, .int x1), (2, .int x2)] [] := by
  intro x1 x2 hf H locs ls hP hS hl
  obtain ⟨hx, hb, hr, hml, hown, hts, hlocks, hK, hX, hj⟩ := id C
  unfold fX11_height_2B at hf
  refine lv_iload_n hx hb dX11_height_2 rfl (lv_at hl 2 rfl) ?_
  refine lv_bipush (v := 6) hx hb dX11_height_3 (by decide) ?_
  refine lv_icmp_ge (tgt := 26) hx hb dX11_height_5 (by decide) (fun c1 => ?_) (fun c1 => ?_)
  · replace hf := it_t c1 hf
    refine lv_iload_n hx hb dX11_height_26 rfl (lv_at hl 2 rfl) ?_
    cases hf
    exact r_iret C hP hS dX11_height_27
  · replace hf := it_f c1 hf
    refine lv_aload_n hx hb dX11_height_8 rfl (lv_at hl 0 rfl) ?_
    refine r_get (k := 7) (v := .ref (ea E 5)) C hP oM_0 rfl iX11 (by decide) wm_t1024 rfl rfl dX11_height_9 ?_
    refine lv_iload_n hx hb dX11_height_12 rfl (lv_at hl 1 rfl) ?_
    refine lv_iload_n hx hb dX11_height_13 rfl (lv_at hl 2 rfl) ?_
    refine lv_iadd hx hb dX11_height_14 ?_
    have h3 := (rdK_e hf).1
    refine r_ald C hP aM_5 h3 dX11_height_15 ?_
    refine lv_topi (fun v2 ev2 => ?_)
    replace hf := rdK_n ev2 hf
    refine lv_if_le (tgt := 26) hx hb dX11_height_16 (by decide) (fun c4 => ?_) (fun c4 => ?_)
    · replace hf := it_t c4 hf
      refine lv_iload_n hx hb dX11_height_26 rfl (lv_at hl 2 rfl) ?_
      cases hf
      exact r_iret C hP hS dX11_height_27
    · replace hf := it_f c4 hf
      refine lv_iload_n hx hb dX11_height_19 rfl (lv_at hl 2 rfl) ?_
      refine lv_iconst (v := 1) hx hb dX11_height_20 (by decide) ?_
      refine lv_iadd hx hb dX11_height_21 ?_
      refine lv_istore_n (lv' := [(2, .int (x2 + 1)), (0, .ref (ea E 0)), (1, .int x1)]) hx hb dX11_height_22 rfl hl (by decide) rfl (fun ls hl => ?_)
      refine lv_goto (tgt := 2) hx hb dX11_height_23 (by decide) ?_
      exact hr2 x1 (x2 + 1) hf H locs ls hP hS (lv_sub hl [1, 2, 0] rfl)
def fX11_height_2 (σ : St) : Nat → Int32 → Int32 → Option Int32
  | 0 => fun _ _ => none
  | n + 1 => fun x1 x2 => fX11_height_2B σ (fX11_height_2 σ n) x1 x2
theorem b_fX11_height_2 {E : Ev} {l : Launch} {p : Program} {e : Env} {s : State} {m : MethodId} {args : Array Value} {below : List Frame} {meth : Method} {c : Code} (σ : St) (C : CX false E RX11 cX11_height 3 (some .int) p s m args meth c) {rr : Int32} : ∀ (n : Nat) (x1 : Int32) (x2 : Int32), fX11_height_2 σ n x1 x2 = some rr → GW false l (rmD 1) E 3 p e s m args below meth c (MQ below (QI false E rr σ s.heap.size) args s 0 0 (aW false E s.heap.size)) σ 2 [(0, .ref (ea E 0)), (1, .int x1), (2, .int x2)] [] := by
  intro n
  induction n with
  | zero => intro x1 x2 hf; have hf : (none : Option _) = some _ := hf; cases hf
  | succ n ih => intro x1 x2 hf; exact b_fX11_height_2B σ C (fX11_height_2 σ n) ih x1 x2 hf
def fX11_height (σ : St) (a0 : Int32) : Option Int32 :=
fX11_height_2 σ FU a0 0
set_option maxHeartbeats 4000000 in
theorem c_fX11_height {E : Ev} {l : Launch} (hj : jW false E) (σ : St) (sz : Nat) (a0 : Int32) {rr : Int32} (hf : fX11_height σ a0 = some rr) : Met l yX11_height (Cond.code yX11_height cX11_height 3 (some .int) :: gT) (rmD 1) (va_Pc [.ref (ea E 0), .int a0] (preW false E σ sz)) (QI false E rr σ sz) 0 0 (aW false E sz) := by
  refine r_entry (QI false E rr σ) hj (by decide) [.ref (ea E 0), .int a0] (Nat.le_of_ble_eq_true rfl) (fun p e s m args below meth c C => ?_)
  intro H locs ls hP hS hl
  have hl : lv_has ls 3 [(0, .ref (ea E 0)), (1, .int a0)] := hl
  obtain ⟨hx, hb, hr, hml, hown, hts, hlocks, hK, hX, hj⟩ := id C
  unfold fX11_height at hf
  refine lv_iconst (v := 0) hx hb dX11_height_0 (by decide) ?_
  refine lv_istore_n (lv' := [(2, .int 0), (0, .ref (ea E 0)), (1, .int a0)]) hx hb dX11_height_1 rfl hl (by decide) rfl (fun ls hl => ?_)
  exact b_fX11_height_2 σ C FU a0 0 hf H locs ls hP hS (lv_sub hl [1, 2, 0] rfl)
def fX11_puts_3B (rec3 : St → Int32 → Int32 → Option St) (σ : St) (x1 : Int32) (x2 : Int32) : Option St :=
(if x2 < 0 then
some σ
else
(wrK 600 σ 13 (σ 0 18) ((x1 >>> (x2 &&& 31)) &&& 255) fun σ2 =>
(nmS (st_put σ2 0 18 ((σ2 0 18) + 1)) fun σ4 =>
rec3 σ4 x1 (x2 + (-8)))))
set_option maxHeartbeats 4000000 in
theorem b_fX11_puts_3B {E : Ev} {l : Launch} {p : Program} {e : Env} {s : State} {m : MethodId} {args : Array Value} {below : List Frame} {meth : Method} {c : Code} (C : CX false E RX11 cX11_puts 3 none p s m args meth c) {sr : St} (rec3 : St → Int32 → Int32 → Option St) (hr3 : ∀ (σ : St) (x1 : Int32) (x2 : Int32), rec3 σ x1 x2 = some sr → GW false l (rmD 1) E 3 p e s m args below meth c (MQ below (QV false E sr s.heap.size) args s 0 0 (aW false E s.heap.size)) σ 3 [(0, .ref (ea E 0)), (1, .int x1), (2, .int x2)] []) : ∀ (σ : St) (x1 : Int32) (x2 : Int32), fX11_puts_3B rec3 σ x1 x2 = some sr → GW false l (rmD 1) E 3 p e s m args below meth c (MQ below (QV false E sr s.heap.size) args s 0 0 (aW false E s.heap.size)) σ 3 [(0, .ref (ea E 0)), (1, .int x1), (2, .int x2)] [] := by
  intro σ x1 x2 hf H locs ls hP hS hl
  obtain ⟨hx, hb, hr, hml, hown, hts, hlocks, hK, hX, hj⟩ := id C
  unfold fX11_puts_3B at hf
  refine lv_iload_n hx hb dX11_puts_3 rfl (lv_at hl 2 rfl) ?_
  refine lv_if_lt (tgt := 39) hx hb dX11_puts_4 (by decide) (fun c1 => ?_) (fun c1 => ?_)
  · replace hf := it_t c1 hf
    cases hf
    exact r_vret C hP hS dX11_puts_39
  · replace hf := it_f c1 hf
    refine lv_aload_n hx hb dX11_puts_7 rfl (lv_at hl 0 rfl) ?_
    refine r_get (k := 17) (v := .ref (ea E 13)) C hP oM_0 rfl iX11 (by decide) wm_t1034 rfl rfl dX11_puts_8 ?_
    refine lv_aload_n hx hb dX11_puts_11 rfl (lv_at hl 0 rfl) ?_
    refine r_get (k := 18) (v := .int (σ 0 18)) C hP oM_0 rfl iX11 (by decide) wm_t1035 rfl rfl dX11_puts_12 ?_
    refine lv_iload_n hx hb dX11_puts_15 rfl (lv_at hl 1 rfl) ?_
    refine lv_iload_n hx hb dX11_puts_16 rfl (lv_at hl 2 rfl) ?_
    refine lv_ishr hx hb dX11_puts_17 ?_
    refine lv_sipush (v := 255) hx hb dX11_puts_18 (by decide) ?_
    refine lv_iand hx hb dX11_puts_21 ?_
    obtain ⟨h3, σ2, eσ2, hf⟩ := wrK_e hf
    refine r_ast C hP hS aM_13 h3 dX11_puts_22 (fun H locs hP hS => ?_)
    rw [← eσ2] at hP
    refine lv_aload_n hx hb dX11_puts_23 rfl (lv_at hl 0 rfl) ?_
    refine lv_aload_n hx hb dX11_puts_24 rfl (lv_at hl 0 rfl) ?_
    refine r_get (k := 18) (v := .int (σ2 0 18)) C hP oM_0 rfl iX11 (by decide) wm_t1035 rfl rfl dX11_puts_25 ?_
    refine lv_iconst (v := 1) hx hb dX11_puts_28 (by decide) ?_
    refine lv_iadd hx hb dX11_puts_29 ?_
    refine r_put (k := 18) (x := ((σ2 0 18) + 1)) C hP hS tyX11 tyX11_ok nmX11 oM_0 rfl iX11 (by decide) wm_t1035 rfl rfl sM_0_18 rfl rfl (Nat.le_of_ble_eq_true rfl) dX11_puts_30 (fun H locs hP hS => ?_)
    obtain ⟨σ4, eσ4, hf⟩ := nmS_e hf
    rw [← eσ4] at hP
    refine lv_iinc (v := (x2 + (-8))) (lv' := [(2, .int (x2 + (-8))), (0, .ref (ea E 0)), (1, .int x1)]) hx hb dX11_puts_33 hl (k := 2) rfl rfl (by decide) rfl (fun ls hl => ?_)
    refine lv_goto (tgt := 3) hx hb dX11_puts_36 (by decide) ?_
    exact hr3 σ4 x1 (x2 + (-8)) hf H locs ls hP hS (lv_sub hl [1, 2, 0] rfl)
def fX11_puts_3 : Nat → St → Int32 → Int32 → Option St
  | 0 => fun _ _ _ => none
  | n + 1 => fun σ x1 x2 => fX11_puts_3B (fX11_puts_3 n) σ x1 x2
theorem b_fX11_puts_3 {E : Ev} {l : Launch} {p : Program} {e : Env} {s : State} {m : MethodId} {args : Array Value} {below : List Frame} {meth : Method} {c : Code} (C : CX false E RX11 cX11_puts 3 none p s m args meth c) {sr : St} : ∀ (n : Nat) (σ : St) (x1 : Int32) (x2 : Int32), fX11_puts_3 n σ x1 x2 = some sr → GW false l (rmD 1) E 3 p e s m args below meth c (MQ below (QV false E sr s.heap.size) args s 0 0 (aW false E s.heap.size)) σ 3 [(0, .ref (ea E 0)), (1, .int x1), (2, .int x2)] [] := by
  intro n
  induction n with
  | zero => intro σ x1 x2 hf; have hf : (none : Option _) = some _ := hf; cases hf
  | succ n ih => intro σ x1 x2 hf; exact b_fX11_puts_3B C (fX11_puts_3 n) ih σ x1 x2 hf
def fX11_puts (σ : St) (a0 : Int32) : Option St :=
fX11_puts_3 FU σ a0 24
set_option maxHeartbeats 4000000 in
theorem c_fX11_puts {E : Ev} {l : Launch} (hj : jW false E) (σ : St) (sz : Nat) (a0 : Int32) {sr : St} (hf : fX11_puts σ a0 = some sr) : Met l yX11_puts (Cond.code yX11_puts cX11_puts 3 none :: gT) (rmD 1) (va_Pc [.ref (ea E 0), .int a0] (preW false E σ sz)) (QV false E sr sz) 0 0 (aW false E sz) := by
  refine r_entry (QV false E sr) hj (by decide) [.ref (ea E 0), .int a0] (Nat.le_of_ble_eq_true rfl) (fun p e s m args below meth c C => ?_)
  intro H locs ls hP hS hl
  have hl : lv_has ls 3 [(0, .ref (ea E 0)), (1, .int a0)] := hl
  obtain ⟨hx, hb, hr, hml, hown, hts, hlocks, hK, hX, hj⟩ := id C
  unfold fX11_puts at hf
  refine lv_bipush (v := 24) hx hb dX11_puts_0 (by decide) ?_
  refine lv_istore_n (lv' := [(2, .int 24), (0, .ref (ea E 0)), (1, .int a0)]) hx hb dX11_puts_2 rfl hl (by decide) rfl (fun ls hl => ?_)
  exact b_fX11_puts_3 C FU σ a0 24 hf H locs ls hP hS (lv_sub hl [1, 2, 0] rfl)
def fX11_feed (σ : St) (a0 : Int32) (a1 : Int32) (a2 : Int32) (a3 : Int32) (a4 : Int32) : Option (Int32 × St) :=
(nmS (st_put σ 0 0 0) fun σ1 =>
(if (σ1 0 18) ≤ 580 then
(cv (fX11_puts σ1 a0) fun σ4 =>
(cv (fX11_puts σ4 a1) fun σ6 =>
(cv (fX11_puts σ6 a2) fun σ8 =>
(cv (fX11_puts σ8 a3) fun σ10 =>
(cv (fX11_puts σ10 a4) fun σ12 =>
some ((σ12 0 18), σ12))))))
else
some ((-1), σ1)))
set_option maxHeartbeats 4000000 in
theorem c_fX11_feed {E : Ev} {l : Launch} (hj : jW false E) (σ : St) (sz : Nat) (a0 : Int32) (a1 : Int32) (a2 : Int32) (a3 : Int32) (a4 : Int32) {rr : Int32} {sr : St} (hf : fX11_feed σ a0 a1 a2 a3 a4 = some (rr, sr)) : Met l yX11_feed (Cond.code yX11_feed cX11_feed 6 (some .int) :: gT) (rmD 2) (va_Pc [.ref (ea E 0), .int a0, .int a1, .int a2, .int a3, .int a4] (preW false E σ sz)) (QI false E rr sr sz) 0 0 (aW false E sz) := by
  refine r_entry (QI false E rr sr) hj (by decide) [.ref (ea E 0), .int a0, .int a1, .int a2, .int a3, .int a4] (Nat.le_of_ble_eq_true rfl) (fun p e s m args below meth c C => ?_)
  intro H locs ls hP hS hl
  have hl : lv_has ls 6 [(0, .ref (ea E 0)), (1, .int a0), (2, .int a1), (3, .int a2), (4, .int a3), (5, .int a4)] := hl
  obtain ⟨hx, hb, hr, hml, hown, hts, hlocks, hK, hX, hj⟩ := id C
  unfold fX11_feed at hf
  refine lv_aload_n hx hb dX11_feed_0 rfl (lv_at hl 0 rfl) ?_
  refine lv_iconst (v := 0) hx hb dX11_feed_1 (by decide) ?_
  refine r_put (k := 0) (x := 0) C hP hS tyX11 tyX11_ok nmX11 oM_0 rfl iX11 (by decide) wm_t1017 rfl rfl sM_0_0 rfl rfl (Nat.le_of_ble_eq_true rfl) dX11_feed_2 (fun H locs hP hS => ?_)
  obtain ⟨σ1, eσ1, hf⟩ := nmS_e hf
  rw [← eσ1] at hP
  refine lv_aload_n hx hb dX11_feed_5 rfl (lv_at hl 0 rfl) ?_
  refine r_get (k := 18) (v := .int (σ1 0 18)) C hP oM_0 rfl iX11 (by decide) wm_t1035 rfl rfl dX11_feed_6 ?_
  refine lv_sipush (v := 580) hx hb dX11_feed_9 (by decide) ?_
  refine lv_icmp_le (tgt := 17) hx hb dX11_feed_12 (by decide) (fun c2 => ?_) (fun c2 => ?_)
  · replace hf := it_t c2 hf
    refine lv_aload_n hx hb dX11_feed_17 rfl (lv_at hl 0 rfl) ?_
    refine lv_iload_n hx hb dX11_feed_18 rfl (lv_at hl 1 rfl) ?_
    obtain ⟨σ4, hc3, hf⟩ := cv_e hf
    refine r_cVv (n := 1) (As := [.int a0]) (rest := []) C (c_fX11_puts hj σ1 H.size a0 hc3) oM_0 rfl gv_RX11_165 (by decide +kernel) (rmD_le (by decide) (by decide)) rfl rfl (Nat.le_of_ble_eq_true rfl) dX11_feed_19 hP hS hl.1 (fun H locs hP hS => ?_)
    refine lv_aload_n hx hb dX11_feed_22 rfl (lv_at hl 0 rfl) ?_
    refine lv_iload_n hx hb dX11_feed_23 rfl (lv_at hl 2 rfl) ?_
    obtain ⟨σ6, hc5, hf⟩ := cv_e hf
    refine r_cVv (n := 1) (As := [.int a1]) (rest := []) C (c_fX11_puts hj σ4 H.size a1 hc5) oM_0 rfl gv_RX11_165 (by decide +kernel) (rmD_le (by decide) (by decide)) rfl rfl (Nat.le_of_ble_eq_true rfl) dX11_feed_24 hP hS hl.1 (fun H locs hP hS => ?_)
    refine lv_aload_n hx hb dX11_feed_27 rfl (lv_at hl 0 rfl) ?_
    refine lv_iload_n hx hb dX11_feed_28 rfl (lv_at hl 3 rfl) ?_
    obtain ⟨σ8, hc7, hf⟩ := cv_e hf
    refine r_cVv (n := 1) (As := [.int a2]) (rest := []) C (c_fX11_puts hj σ6 H.size a2 hc7) oM_0 rfl gv_RX11_165 (by decide +kernel) (rmD_le (by decide) (by decide)) rfl rfl (Nat.le_of_ble_eq_true rfl) dX11_feed_29 hP hS hl.1 (fun H locs hP hS => ?_)
    refine lv_aload_n hx hb dX11_feed_32 rfl (lv_at hl 0 rfl) ?_
    refine lv_iload hx hb dX11_feed_33 (lv_at hl 4 rfl) ?_
    obtain ⟨σ10, hc9, hf⟩ := cv_e hf
    refine r_cVv (n := 1) (As := [.int a3]) (rest := []) C (c_fX11_puts hj σ8 H.size a3 hc9) oM_0 rfl gv_RX11_165 (by decide +kernel) (rmD_le (by decide) (by decide)) rfl rfl (Nat.le_of_ble_eq_true rfl) dX11_feed_35 hP hS hl.1 (fun H locs hP hS => ?_)
    refine lv_aload_n hx hb dX11_feed_38 rfl (lv_at hl 0 rfl) ?_
    refine lv_iload hx hb dX11_feed_39 (lv_at hl 5 rfl) ?_
    obtain ⟨σ12, hc11, hf⟩ := cv_e hf
    refine r_cVv (n := 1) (As := [.int a4]) (rest := []) C (c_fX11_puts hj σ10 H.size a4 hc11) oM_0 rfl gv_RX11_165 (by decide +kernel) (rmD_le (by decide) (by decide)) rfl rfl (Nat.le_of_ble_eq_true rfl) dX11_feed_41 hP hS hl.1 (fun H locs hP hS => ?_)
    refine lv_aload_n hx hb dX11_feed_44 rfl (lv_at hl 0 rfl) ?_
    refine r_get (k := 18) (v := .int (σ12 0 18)) C hP oM_0 rfl iX11 (by decide) wm_t1035 rfl rfl dX11_feed_45 ?_
    cases hf
    exact r_iret C hP hS dX11_feed_48
  · replace hf := it_f c2 hf
    refine lv_iconst (v := (-1)) hx hb dX11_feed_15 (by decide) ?_
    cases hf
    exact r_iret C hP hS dX11_feed_16
def fX11_end (σ : St) (a0 : Int32) : Option (Int32 × St) :=
(nmS (st_put σ 0 0 0) fun σ1 =>
(if (fX11_isIn a0 0 (σ1 0 18)) = 0 then
some (0, σ1)
else
(nmS (st_put σ1 0 18 a0) fun σ3 =>
some (1, σ3))))
set_option maxHeartbeats 4000000 in
theorem c_fX11_end {E : Ev} {l : Launch} (hj : jW false E) (σ : St) (sz : Nat) (a0 : Int32) {rr : Int32} {sr : St} (hf : fX11_end σ a0 = some (rr, sr)) : Met l yX11_end (Cond.code yX11_end cX11_end 2 (some .boolean) :: gT) (rmD 2) (va_Pc [.ref (ea E 0), .int a0] (preW false E σ sz)) (QI false E rr sr sz) 0 0 (aW false E sz) := by
  refine r_entry (QI false E rr sr) hj (by decide) [.ref (ea E 0), .int a0] (Nat.le_of_ble_eq_true rfl) (fun p e s m args below meth c C => ?_)
  intro H locs ls hP hS hl
  have hl : lv_has ls 2 [(0, .ref (ea E 0)), (1, .int a0)] := hl
  obtain ⟨hx, hb, hr, hml, hown, hts, hlocks, hK, hX, hj⟩ := id C
  unfold fX11_end at hf
  refine lv_aload_n hx hb dX11_end_0 rfl (lv_at hl 0 rfl) ?_
  refine lv_iconst (v := 0) hx hb dX11_end_1 (by decide) ?_
  refine r_put (k := 0) (x := 0) C hP hS tyX11 tyX11_ok nmX11 oM_0 rfl iX11 (by decide) wm_t1017 rfl rfl sM_0_0 rfl rfl (Nat.le_of_ble_eq_true rfl) dX11_end_2 (fun H locs hP hS => ?_)
  obtain ⟨σ1, eσ1, hf⟩ := nmS_e hf
  rw [← eσ1] at hP
  refine lv_aload_n hx hb dX11_end_5 rfl (lv_at hl 0 rfl) ?_
  refine lv_iload_n hx hb dX11_end_6 rfl (lv_at hl 1 rfl) ?_
  refine lv_iconst (v := 0) hx hb dX11_end_7 (by decide) ?_
  refine lv_aload_n hx hb dX11_end_8 rfl (lv_at hl 0 rfl) ?_
  refine r_get (k := 18) (v := .int (σ1 0 18)) C hP oM_0 rfl iX11 (by decide) wm_t1035 rfl rfl dX11_end_9 ?_
  refine r_cVi (n := 3) (As := [.int a0, .int 0, .int (σ1 0 18)]) (rest := []) C (c_fX11_isIn hj σ1 H.size a0 0 (σ1 0 18)) oM_0 rfl gv_RX11_144 (by decide +kernel) (rmD_le (by decide) (by decide)) rfl rfl (Nat.le_of_ble_eq_true rfl) dX11_end_12 hP hS hl.1 (fun H locs hP hS => ?_)
  refine lv_if_ne (tgt := 20) hx hb dX11_end_15 (by decide) (fun c2 => ?_) (fun c2 => ?_)
  · replace hf := it_f c2 hf
    refine lv_aload_n hx hb dX11_end_20 rfl (lv_at hl 0 rfl) ?_
    refine lv_iload_n hx hb dX11_end_21 rfl (lv_at hl 1 rfl) ?_
    refine r_put (k := 18) (x := a0) C hP hS tyX11 tyX11_ok nmX11 oM_0 rfl iX11 (by decide) wm_t1035 rfl rfl sM_0_18 rfl rfl (Nat.le_of_ble_eq_true rfl) dX11_end_22 (fun H locs hP hS => ?_)
    obtain ⟨σ3, eσ3, hf⟩ := nmS_e hf
    rw [← eσ3] at hP
    refine lv_iconst (v := 1) hx hb dX11_end_25 (by decide) ?_
    cases hf
    exact r_zret C rfl hP hS dX11_end_26
  · replace hf := it_t c2 hf
    refine lv_iconst (v := 0) hx hb dX11_end_18 (by decide) ?_
    cases hf
    exact r_zret C rfl hP hS dX11_end_19
def fX11_raw (σ : St) (a0 : Int32) : Option Int32 :=
(if (σ 0 18) ≤ a0 then
some (-1)
else
(rdK 600 (σ 13) a0 fun v2 =>
some v2))
set_option maxHeartbeats 4000000 in
theorem c_fX11_raw {E : Ev} {l : Launch} (hj : jW false E) (σ : St) (sz : Nat) (a0 : Int32) {rr : Int32} (hf : fX11_raw σ a0 = some rr) : Met l yX11_raw (Cond.code yX11_raw cX11_raw 2 (some .int) :: gT) (rmD 1) (va_Pc [.ref (ea E 0), .int a0] (preW false E σ sz)) (QI false E rr σ sz) 0 0 (aW false E sz) := by
  refine r_entry (QI false E rr σ) hj (by decide) [.ref (ea E 0), .int a0] (Nat.le_of_ble_eq_true rfl) (fun p e s m args below meth c C => ?_)
  intro H locs ls hP hS hl
  have hl : lv_has ls 2 [(0, .ref (ea E 0)), (1, .int a0)] := hl
  obtain ⟨hx, hb, hr, hml, hown, hts, hlocks, hK, hX, hj⟩ := id C
  unfold fX11_raw at hf
  refine lv_iload_n hx hb dX11_raw_0 rfl (lv_at hl 1 rfl) ?_
  refine lv_aload_n hx hb dX11_raw_1 rfl (lv_at hl 0 rfl) ?_
  refine r_get (k := 18) (v := .int (σ 0 18)) C hP oM_0 rfl iX11 (by decide) wm_t1035 rfl rfl dX11_raw_2 ?_
  refine lv_icmp_ge (tgt := 17) hx hb dX11_raw_5 (by decide) (fun c1 => ?_) (fun c1 => ?_)
  · replace hf := it_t c1 hf
    refine lv_iconst (v := (-1)) hx hb dX11_raw_17 (by decide) ?_
    cases hf
    exact r_iret C hP hS dX11_raw_18
  · replace hf := it_f c1 hf
    refine lv_aload_n hx hb dX11_raw_8 rfl (lv_at hl 0 rfl) ?_
    refine r_get (k := 17) (v := .ref (ea E 13)) C hP oM_0 rfl iX11 (by decide) wm_t1034 rfl rfl dX11_raw_9 ?_
    refine lv_iload_n hx hb dX11_raw_12 rfl (lv_at hl 1 rfl) ?_
    have h3 := (rdK_e hf).1
    refine r_ald C hP aM_13 h3 dX11_raw_13 ?_
    refine lv_topi (fun v2 ev2 => ?_)
    replace hf := rdK_n ev2 hf
    refine lv_goto (tgt := 18) hx hb dX11_raw_14 (by decide) ?_
    cases hf
    exact r_iret C hP hS dX11_raw_18
def fX11_isLetter (a0 : Int32) : Int32 :=
(if (fX11_isIn a0 97 122) = 0 then
(if (fX11_isIn a0 65 90) = 0 then
0
else
1)
else
1)
set_option maxHeartbeats 4000000 in
theorem c_fX11_isLetter {E : Ev} {l : Launch} (hj : jW false E) (σ : St) (sz : Nat) (a0 : Int32) : Met l yX11_isLetter (Cond.code yX11_isLetter cX11_isLetter 2 (some .boolean) :: gT) (rmD 2) (va_Pc [.ref (ea E 0), .int a0] (preW false E σ sz)) (QI false E (fX11_isLetter a0) σ sz) 0 0 (aW false E sz) := by
  refine r_entry (QI false E (fX11_isLetter a0) σ) hj (by decide) [.ref (ea E 0), .int a0] (Nat.le_of_ble_eq_true rfl) (fun p e s m args below meth c C => ?_)
  intro H locs ls hP hS hl
  have hl : lv_has ls 2 [(0, .ref (ea E 0)), (1, .int a0)] := hl
  obtain ⟨hx, hb, hr, hml, hown, hts, hlocks, hK, hX, hj⟩ := id C
  generalize hf : fX11_isLetter a0 = rr
  unfold fX11_isLetter at hf
  refine lv_aload_n hx hb dX11_isLetter_0 rfl (lv_at hl 0 rfl) ?_
  refine lv_iload_n hx hb dX11_isLetter_1 rfl (lv_at hl 1 rfl) ?_
  refine lv_bipush (v := 97) hx hb dX11_isLetter_2 (by decide) ?_
  refine lv_bipush (v := 122) hx hb dX11_isLetter_4 (by decide) ?_
  refine r_cVi (n := 3) (As := [.int a0, .int 97, .int 122]) (rest := []) C (c_fX11_isIn hj σ H.size a0 97 122) oM_0 rfl gv_RX11_144 (by decide +kernel) (rmD_le (by decide) (by decide)) rfl rfl (Nat.le_of_ble_eq_true rfl) dX11_isLetter_6 hP hS hl.1 (fun H locs hP hS => ?_)
  refine lv_if_ne (tgt := 24) hx hb dX11_isLetter_9 (by decide) (fun c1 => ?_) (fun c1 => ?_)
  · replace hf := it_f c1 hf
    refine lv_iconst (v := 1) hx hb dX11_isLetter_24 (by decide) ?_
    refine lv_goto (tgt := 29) hx hb dX11_isLetter_25 (by decide) ?_
    subst hf
    exact r_zret C rfl hP hS dX11_isLetter_29
  · replace hf := it_t c1 hf
    refine lv_aload_n hx hb dX11_isLetter_12 rfl (lv_at hl 0 rfl) ?_
    refine lv_iload_n hx hb dX11_isLetter_13 rfl (lv_at hl 1 rfl) ?_
    refine lv_bipush (v := 65) hx hb dX11_isLetter_14 (by decide) ?_
    refine lv_bipush (v := 90) hx hb dX11_isLetter_16 (by decide) ?_
    refine r_cVi (n := 3) (As := [.int a0, .int 65, .int 90]) (rest := []) C (c_fX11_isIn hj σ H.size a0 65 90) oM_0 rfl gv_RX11_144 (by decide +kernel) (rmD_le (by decide) (by decide)) rfl rfl (Nat.le_of_ble_eq_true rfl) dX11_isLetter_18 hP hS hl.1 (fun H locs hP hS => ?_)
    refine lv_if_eq (tgt := 28) hx hb dX11_isLetter_21 (by decide) (fun c2 => ?_) (fun c2 => ?_)
    · replace hf := it_t c2 hf
      refine lv_iconst (v := 0) hx hb dX11_isLetter_28 (by decide) ?_
      subst hf
      exact r_zret C rfl hP hS dX11_isLetter_29
    · replace hf := it_f c2 hf
      refine lv_iconst (v := 1) hx hb dX11_isLetter_24 (by decide) ?_
      refine lv_goto (tgt := 29) hx hb dX11_isLetter_25 (by decide) ?_
      subst hf
      exact r_zret C rfl hP hS dX11_isLetter_29
theorem z_fX11_isLetter (a0 : Int32) : fX11_isLetter a0 = 0 ∨ fX11_isLetter a0 = 1 := by
  unfold fX11_isLetter
  repeat' split
  all_goals first | exact Or.inl rfl | exact Or.inr rfl | exact z_fX11_isIn _ _ _
def fX11_isDigit (a0 : Int32) : Int32 :=
(fX11_isIn a0 48 57)
set_option maxHeartbeats 4000000 in
theorem c_fX11_isDigit {E : Ev} {l : Launch} (hj : jW false E) (σ : St) (sz : Nat) (a0 : Int32) : Met l yX11_isDigit (Cond.code yX11_isDigit cX11_isDigit 2 (some .boolean) :: gT) (rmD 2) (va_Pc [.ref (ea E 0), .int a0] (preW false E σ sz)) (QI false E (fX11_isDigit a0) σ sz) 0 0 (aW false E sz) := by
  refine r_entry (QI false E (fX11_isDigit a0) σ) hj (by decide) [.ref (ea E 0), .int a0] (Nat.le_of_ble_eq_true rfl) (fun p e s m args below meth c C => ?_)
  intro H locs ls hP hS hl
  have hl : lv_has ls 2 [(0, .ref (ea E 0)), (1, .int a0)] := hl
  obtain ⟨hx, hb, hr, hml, hown, hts, hlocks, hK, hX, hj⟩ := id C
  generalize hf : fX11_isDigit a0 = rr
  unfold fX11_isDigit at hf
  refine lv_aload_n hx hb dX11_isDigit_0 rfl (lv_at hl 0 rfl) ?_
  refine lv_iload_n hx hb dX11_isDigit_1 rfl (lv_at hl 1 rfl) ?_
  refine lv_bipush (v := 48) hx hb dX11_isDigit_2 (by decide) ?_
  refine lv_bipush (v := 57) hx hb dX11_isDigit_4 (by decide) ?_
  refine r_cVi (n := 3) (As := [.int a0, .int 48, .int 57]) (rest := []) C (c_fX11_isIn hj σ H.size a0 48 57) oM_0 rfl gv_RX11_144 (by decide +kernel) (rmD_le (by decide) (by decide)) rfl rfl (Nat.le_of_ble_eq_true rfl) dX11_isDigit_6 hP hS hl.1 (fun H locs hP hS => ?_)
  subst hf
  exact r_zret C (zb_nar (z_fX11_isIn a0 48 57)) hP hS dX11_isDigit_9
theorem z_fX11_isDigit (a0 : Int32) : fX11_isDigit a0 = 0 ∨ fX11_isDigit a0 = 1 := by
  unfold fX11_isDigit
  repeat' split
  all_goals first | exact Or.inl rfl | exact Or.inr rfl | exact z_fX11_isIn _ _ _
def fX11_isMarkSign (a0 : Int32) : Int32 :=
(if a0 = 59 then
1
else
(if a0 = 43 then
1
else
(if a0 = 45 then
1
else
(if a0 = 42 then
1
else
(if a0 = 47 then
1
else
(if a0 = 40 then
1
else
(if a0 = 41 then
1
else
(if a0 = 60 then
1
else
(if a0 = 61 then
1
else
(if a0 = 62 then
1
else
0))))))))))
set_option maxHeartbeats 4000000 in
theorem c_fX11_isMarkSign {E : Ev} {l : Launch} (hj : jW false E) (σ : St) (sz : Nat) (a0 : Int32) : Met l yX11_isMarkSign (Cond.code yX11_isMarkSign cX11_isMarkSign 2 (some .boolean) :: gT) (rmD 1) (va_Pc [.ref (ea E 0), .int a0] (preW false E σ sz)) (QI false E (fX11_isMarkSign a0) σ sz) 0 0 (aW false E sz) := by
  refine r_entry (QI false E (fX11_isMarkSign a0) σ) hj (by decide) [.ref (ea E 0), .int a0] (Nat.le_of_ble_eq_true rfl) (fun p e s m args below meth c C => ?_)
  intro H locs ls hP hS hl
  have hl : lv_has ls 2 [(0, .ref (ea E 0)), (1, .int a0)] := hl
  obtain ⟨hx, hb, hr, hml, hown, hts, hlocks, hK, hX, hj⟩ := id C
  generalize hf : fX11_isMarkSign a0 = rr
  unfold fX11_isMarkSign at hf
  refine lv_iload_n hx hb dX11_isMarkSign_0 rfl (lv_at hl 1 rfl) ?_
  refine lv_bipush (v := 59) hx hb dX11_isMarkSign_1 (by decide) ?_
  refine lv_icmp_eq (tgt := 60) hx hb dX11_isMarkSign_3 (by decide) (fun c1 => ?_) (fun c1 => ?_)
  · replace hf := it_t c1 hf
    refine lv_iconst (v := 1) hx hb dX11_isMarkSign_60 (by decide) ?_
    refine lv_goto (tgt := 65) hx hb dX11_isMarkSign_61 (by decide) ?_
    subst hf
    exact r_zret C rfl hP hS dX11_isMarkSign_65
  · replace hf := it_f c1 hf
    refine lv_iload_n hx hb dX11_isMarkSign_6 rfl (lv_at hl 1 rfl) ?_
    refine lv_bipush (v := 43) hx hb dX11_isMarkSign_7 (by decide) ?_
    refine lv_icmp_eq (tgt := 60) hx hb dX11_isMarkSign_9 (by decide) (fun c2 => ?_) (fun c2 => ?_)
    · replace hf := it_t c2 hf
      refine lv_iconst (v := 1) hx hb dX11_isMarkSign_60 (by decide) ?_
      refine lv_goto (tgt := 65) hx hb dX11_isMarkSign_61 (by decide) ?_
      subst hf
      exact r_zret C rfl hP hS dX11_isMarkSign_65
    · replace hf := it_f c2 hf
      refine lv_iload_n hx hb dX11_isMarkSign_12 rfl (lv_at hl 1 rfl) ?_
      refine lv_bipush (v := 45) hx hb dX11_isMarkSign_13 (by decide) ?_
      refine lv_icmp_eq (tgt := 60) hx hb dX11_isMarkSign_15 (by decide) (fun c3 => ?_) (fun c3 => ?_)
      · replace hf := it_t c3 hf
        refine lv_iconst (v := 1) hx hb dX11_isMarkSign_60 (by decide) ?_
        refine lv_goto (tgt := 65) hx hb dX11_isMarkSign_61 (by decide) ?_
        subst hf
        exact r_zret C rfl hP hS dX11_isMarkSign_65
      · replace hf := it_f c3 hf
        refine lv_iload_n hx hb dX11_isMarkSign_18 rfl (lv_at hl 1 rfl) ?_
        refine lv_bipush (v := 42) hx hb dX11_isMarkSign_19 (by decide) ?_
        refine lv_icmp_eq (tgt := 60) hx hb dX11_isMarkSign_21 (by decide) (fun c4 => ?_) (fun c4 => ?_)
        · replace hf := it_t c4 hf
          refine lv_iconst (v := 1) hx hb dX11_isMarkSign_60 (by decide) ?_
          refine lv_goto (tgt := 65) hx hb dX11_isMarkSign_61 (by decide) ?_
          subst hf
          exact r_zret C rfl hP hS dX11_isMarkSign_65
        · replace hf := it_f c4 hf
          refine lv_iload_n hx hb dX11_isMarkSign_24 rfl (lv_at hl 1 rfl) ?_
          refine lv_bipush (v := 47) hx hb dX11_isMarkSign_25 (by decide) ?_
          refine lv_icmp_eq (tgt := 60) hx hb dX11_isMarkSign_27 (by decide) (fun c5 => ?_) (fun c5 => ?_)
          · replace hf := it_t c5 hf
            refine lv_iconst (v := 1) hx hb dX11_isMarkSign_60 (by decide) ?_
            refine lv_goto (tgt := 65) hx hb dX11_isMarkSign_61 (by decide) ?_
            subst hf
            exact r_zret C rfl hP hS dX11_isMarkSign_65
          · replace hf := it_f c5 hf
            refine lv_iload_n hx hb dX11_isMarkSign_30 rfl (lv_at hl 1 rfl) ?_
            refine lv_bipush (v := 40) hx hb dX11_isMarkSign_31 (by decide) ?_
            refine lv_icmp_eq (tgt := 60) hx hb dX11_isMarkSign_33 (by decide) (fun c6 => ?_) (fun c6 => ?_)
            · replace hf := it_t c6 hf
              refine lv_iconst (v := 1) hx hb dX11_isMarkSign_60 (by decide) ?_
              refine lv_goto (tgt := 65) hx hb dX11_isMarkSign_61 (by decide) ?_
              subst hf
              exact r_zret C rfl hP hS dX11_isMarkSign_65
            · replace hf := it_f c6 hf
              refine lv_iload_n hx hb dX11_isMarkSign_36 rfl (lv_at hl 1 rfl) ?_
              refine lv_bipush (v := 41) hx hb dX11_isMarkSign_37 (by decide) ?_
              refine lv_icmp_eq (tgt := 60) hx hb dX11_isMarkSign_39 (by decide) (fun c7 => ?_) (fun c7 => ?_)
              · replace hf := it_t c7 hf
                refine lv_iconst (v := 1) hx hb dX11_isMarkSign_60 (by decide) ?_
                refine lv_goto (tgt := 65) hx hb dX11_isMarkSign_61 (by decide) ?_
                subst hf
                exact r_zret C rfl hP hS dX11_isMarkSign_65
              · replace hf := it_f c7 hf
                refine lv_iload_n hx hb dX11_isMarkSign_42 rfl (lv_at hl 1 rfl) ?_
                refine lv_bipush (v := 60) hx hb dX11_isMarkSign_43 (by decide) ?_
                refine lv_icmp_eq (tgt := 60) hx hb dX11_isMarkSign_45 (by decide) (fun c8 => ?_) (fun c8 => ?_)
                · replace hf := it_t c8 hf
                  refine lv_iconst (v := 1) hx hb dX11_isMarkSign_60 (by decide) ?_
                  refine lv_goto (tgt := 65) hx hb dX11_isMarkSign_61 (by decide) ?_
                  subst hf
                  exact r_zret C rfl hP hS dX11_isMarkSign_65
                · replace hf := it_f c8 hf
                  refine lv_iload_n hx hb dX11_isMarkSign_48 rfl (lv_at hl 1 rfl) ?_
                  refine lv_bipush (v := 61) hx hb dX11_isMarkSign_49 (by decide) ?_
                  refine lv_icmp_eq (tgt := 60) hx hb dX11_isMarkSign_51 (by decide) (fun c9 => ?_) (fun c9 => ?_)
                  · replace hf := it_t c9 hf
                    refine lv_iconst (v := 1) hx hb dX11_isMarkSign_60 (by decide) ?_
                    refine lv_goto (tgt := 65) hx hb dX11_isMarkSign_61 (by decide) ?_
                    subst hf
                    exact r_zret C rfl hP hS dX11_isMarkSign_65
                  · replace hf := it_f c9 hf
                    refine lv_iload_n hx hb dX11_isMarkSign_54 rfl (lv_at hl 1 rfl) ?_
                    refine lv_bipush (v := 62) hx hb dX11_isMarkSign_55 (by decide) ?_
                    refine lv_icmp_ne (tgt := 64) hx hb dX11_isMarkSign_57 (by decide) (fun c10 => ?_) (fun c10 => ?_)
                    · replace hf := it_f c10 hf
                      refine lv_iconst (v := 0) hx hb dX11_isMarkSign_64 (by decide) ?_
                      subst hf
                      exact r_zret C rfl hP hS dX11_isMarkSign_65
                    · replace hf := it_t c10 hf
                      refine lv_iconst (v := 1) hx hb dX11_isMarkSign_60 (by decide) ?_
                      refine lv_goto (tgt := 65) hx hb dX11_isMarkSign_61 (by decide) ?_
                      subst hf
                      exact r_zret C rfl hP hS dX11_isMarkSign_65
theorem z_fX11_isMarkSign (a0 : Int32) : fX11_isMarkSign a0 = 0 ∨ fX11_isMarkSign a0 = 1 := by
  unfold fX11_isMarkSign
  repeat' split
  all_goals first | exact Or.inl rfl | exact Or.inr rfl
