def fX11_arm_32 (σ : St) (x1 : Int32) (x2 : Int32) (y0 : Int32) (y1 : Int32) (y2 : Int32) : Option (Int32 × St) :=
(if (fX11_isIn y2 y1 y0) = 0 then
some (0, σ)
else
(if x1 = 7 then
(nmS (st_put σ 0 45 x2) fun σ5 =>
some (1, σ5))
else
(wrK 7 σ 27 x1 x2 fun σ3 =>
some (1, σ3))))
set_option maxHeartbeats 4000000 in
theorem b_fX11_arm_32 {E : Ev} {l : Launch} {p : Program} {e : Env} {s : State} {m : MethodId} {args : Array Value} {below : List Frame} {meth : Method} {c : Code} (C : CX false E RX11 cX11_arm 3 (some .boolean) p s m args meth c) {rr : Int32} {sr : St} : ∀ (σ : St) (x1 : Int32) (x2 : Int32) (y0 : Int32) (y1 : Int32) (y2 : Int32), fX11_arm_32 σ x1 x2 y0 y1 y2 = some (rr, sr) → GW false l (rmD 2) E 3 p e s m args below meth c (MQ below (QI false E rr sr s.heap.size) args s 0 0 (aW false E s.heap.size)) σ 32 [(0, .ref (ea E 0)), (1, .int x1), (2, .int x2)] [.int y0, .int y1, .int y2, .ref (ea E 0)] := by
  intro σ x1 x2 y0 y1 y2 hf H locs ls hP hS hl
  obtain ⟨hx, hb, hr, hml, hown, hts, hlocks, hK, hX, hj⟩ := id C
  unfold fX11_arm_32 at hf
  refine r_cVi (n := 3) (As := [.int y2, .int y1, .int y0]) (rest := []) C (c_fX11_isIn hj σ H.size y2 y1 y0) oM_0 rfl gv_RX11_144 (by decide +kernel) (rmD_le (by decide) (by decide)) rfl rfl (Nat.le_of_ble_eq_true rfl) dX11_arm_32 hP hS hl.1 (fun H locs hP hS => ?_)
  refine lv_if_ne (tgt := 40) hx hb dX11_arm_35 (by decide) (fun c1 => ?_) (fun c1 => ?_)
  · replace hf := it_f c1 hf
    refine lv_iload_n hx hb dX11_arm_40 rfl (lv_at hl 1 rfl) ?_
    refine lv_bipush (v := 7) hx hb dX11_arm_41 (by decide) ?_
    refine lv_icmp_ne (tgt := 54) hx hb dX11_arm_43 (by decide) (fun c2 => ?_) (fun c2 => ?_)
    · replace hf := it_f c2 hf
      refine lv_aload_n hx hb dX11_arm_54 rfl (lv_at hl 0 rfl) ?_
      refine r_get (k := 44) (v := .ref (ea E 27)) C hP oM_0 rfl iX11 (by decide) wm_t1061 rfl rfl dX11_arm_55 ?_
      refine lv_iload_n hx hb dX11_arm_58 rfl (lv_at hl 1 rfl) ?_
      refine lv_iload_n hx hb dX11_arm_59 rfl (lv_at hl 2 rfl) ?_
      obtain ⟨h4, σ3, eσ3, hf⟩ := wrK_e hf
      refine r_ast C hP hS aM_27 h4 dX11_arm_60 (fun H locs hP hS => ?_)
      rw [← eσ3] at hP
      refine lv_iconst (v := 1) hx hb dX11_arm_61 (by decide) ?_
      cases hf
      exact r_zret C rfl hP hS dX11_arm_62
    · replace hf := it_t c2 hf
      refine lv_aload_n hx hb dX11_arm_46 rfl (lv_at hl 0 rfl) ?_
      refine lv_iload_n hx hb dX11_arm_47 rfl (lv_at hl 2 rfl) ?_
      refine r_put (k := 45) (x := x2) C hP hS tyX11 tyX11_ok nmX11 oM_0 rfl iX11 (by decide) wm_t1062 rfl rfl sM_0_45 rfl rfl (Nat.le_of_ble_eq_true rfl) dX11_arm_48 (fun H locs hP hS => ?_)
      obtain ⟨σ5, eσ5, hf⟩ := nmS_e hf
      rw [← eσ5] at hP
      refine lv_goto (tgt := 61) hx hb dX11_arm_51 (by decide) ?_
      refine lv_iconst (v := 1) hx hb dX11_arm_61 (by decide) ?_
      cases hf
      exact r_zret C rfl hP hS dX11_arm_62
  · replace hf := it_t c1 hf
    refine lv_iconst (v := 0) hx hb dX11_arm_38 (by decide) ?_
    cases hf
    exact r_zret C rfl hP hS dX11_arm_39
def fX11_arm (σ : St) (a0 : Int32) (a1 : Int32) : Option (Int32 × St) :=
(nmS (st_put σ 0 0 0) fun σ1 =>
(if (fX11_isIn a0 0 7) = 0 then
some (0, σ1)
else
(if a0 = 7 then
fX11_arm_32 σ1 a0 a1 90 0 a1
else
fX11_arm_32 σ1 a0 a1 99 0 a1)))
set_option maxHeartbeats 4000000 in
theorem c_fX11_arm {E : Ev} {l : Launch} (hj : jW false E) (σ : St) (sz : Nat) (a0 : Int32) (a1 : Int32) {rr : Int32} {sr : St} (hf : fX11_arm σ a0 a1 = some (rr, sr)) : Met l yX11_arm (Cond.code yX11_arm cX11_arm 3 (some .boolean) :: gT) (rmD 2) (va_Pc [.ref (ea E 0), .int a0, .int a1] (preW false E σ sz)) (QI false E rr sr sz) 0 0 (aW false E sz) := by
  refine r_entry (QI false E rr sr) hj (by decide) [.ref (ea E 0), .int a0, .int a1] (Nat.le_of_ble_eq_true rfl) (fun p e s m args below meth c C => ?_)
  intro H locs ls hP hS hl
  have hl : lv_has ls 3 [(0, .ref (ea E 0)), (1, .int a0), (2, .int a1)] := hl
  obtain ⟨hx, hb, hr, hml, hown, hts, hlocks, hK, hX, hj⟩ := id C
  unfold fX11_arm at hf
  refine lv_aload_n hx hb dX11_arm_0 rfl (lv_at hl 0 rfl) ?_
  refine lv_iconst (v := 0) hx hb dX11_arm_1 (by decide) ?_
  refine r_put (k := 0) (x := 0) C hP hS tyX11 tyX11_ok nmX11 oM_0 rfl iX11 (by decide) wm_t1017 rfl rfl sM_0_0 rfl rfl (Nat.le_of_ble_eq_true rfl) dX11_arm_2 (fun H locs hP hS => ?_)
  obtain ⟨σ1, eσ1, hf⟩ := nmS_e hf
  rw [← eσ1] at hP
  refine lv_aload_n hx hb dX11_arm_5 rfl (lv_at hl 0 rfl) ?_
  refine lv_iload_n hx hb dX11_arm_6 rfl (lv_at hl 1 rfl) ?_
  refine lv_iconst (v := 0) hx hb dX11_arm_7 (by decide) ?_
  refine lv_bipush (v := 7) hx hb dX11_arm_8 (by decide) ?_
  refine r_cVi (n := 3) (As := [.int a0, .int 0, .int 7]) (rest := []) C (c_fX11_isIn hj σ1 H.size a0 0 7) oM_0 rfl gv_RX11_144 (by decide +kernel) (rmD_le (by decide) (by decide)) rfl rfl (Nat.le_of_ble_eq_true rfl) dX11_arm_10 hP hS hl.1 (fun H locs hP hS => ?_)
  refine lv_if_eq (tgt := 38) hx hb dX11_arm_13 (by decide) (fun c2 => ?_) (fun c2 => ?_)
  · replace hf := it_t c2 hf
    refine lv_iconst (v := 0) hx hb dX11_arm_38 (by decide) ?_
    cases hf
    exact r_zret C rfl hP hS dX11_arm_39
  · replace hf := it_f c2 hf
    refine lv_aload_n hx hb dX11_arm_16 rfl (lv_at hl 0 rfl) ?_
    refine lv_iload_n hx hb dX11_arm_17 rfl (lv_at hl 2 rfl) ?_
    refine lv_iconst (v := 0) hx hb dX11_arm_18 (by decide) ?_
    refine lv_iload_n hx hb dX11_arm_19 rfl (lv_at hl 1 rfl) ?_
    refine lv_bipush (v := 7) hx hb dX11_arm_20 (by decide) ?_
    refine lv_icmp_ne (tgt := 30) hx hb dX11_arm_22 (by decide) (fun c3 => ?_) (fun c3 => ?_)
    · replace hf := it_f c3 hf
      refine lv_bipush (v := 99) hx hb dX11_arm_30 (by decide) ?_
      exact b_fX11_arm_32 C σ1 a0 a1 99 0 a1 hf H locs ls hP hS (lv_sub hl [0, 1, 2] rfl)
    · replace hf := it_t c3 hf
      refine lv_bipush (v := 90) hx hb dX11_arm_25 (by decide) ?_
      refine lv_goto (tgt := 32) hx hb dX11_arm_27 (by decide) ?_
      exact b_fX11_arm_32 C σ1 a0 a1 90 0 a1 hf H locs ls hP hS (lv_sub hl [0, 1, 2] rfl)
def fX11_sail (σ : St) (a0 : Int32) : Option (Int32 × St) :=
(nmS (st_put σ 0 0 0) fun σ1 =>
(if (σ1 0 13) = 0 then
(nmS (st_put σ1 0 13 1) fun σ3 =>
(wrK 2 σ3 10 0 a0 fun σ4 =>
some (1, σ4)))
else
some (0, σ1)))
set_option maxHeartbeats 4000000 in
theorem c_fX11_sail {E : Ev} {l : Launch} (hj : jW false E) (σ : St) (sz : Nat) (a0 : Int32) {rr : Int32} {sr : St} (hf : fX11_sail σ a0 = some (rr, sr)) : Met l yX11_sail (Cond.code yX11_sail cX11_sail 2 (some .boolean) :: gT) (rmD 1) (va_Pc [.ref (ea E 0), .int a0] (preW false E σ sz)) (QI false E rr sr sz) 0 0 (aW false E sz) := by
  refine r_entry (QI false E rr sr) hj (by decide) [.ref (ea E 0), .int a0] (Nat.le_of_ble_eq_true rfl) (fun p e s m args below meth c C => ?_)
  intro H locs ls hP hS hl
  have hl : lv_has ls 2 [(0, .ref (ea E 0)), (1, .int a0)] := hl
  obtain ⟨hx, hb, hr, hml, hown, hts, hlocks, hK, hX, hj⟩ := id C
  unfold fX11_sail at hf
  refine lv_aload_n hx hb dX11_sail_0 rfl (lv_at hl 0 rfl) ?_
  refine lv_iconst (v := 0) hx hb dX11_sail_1 (by decide) ?_
  refine r_put (k := 0) (x := 0) C hP hS tyX11 tyX11_ok nmX11 oM_0 rfl iX11 (by decide) wm_t1017 rfl rfl sM_0_0 rfl rfl (Nat.le_of_ble_eq_true rfl) dX11_sail_2 (fun H locs hP hS => ?_)
  obtain ⟨σ1, eσ1, hf⟩ := nmS_e hf
  rw [← eσ1] at hP
  refine lv_aload_n hx hb dX11_sail_5 rfl (lv_at hl 0 rfl) ?_
  refine r_get (k := 13) (v := .int (σ1 0 13)) C hP oM_0 rfl iX11 (by decide) wm_t1030 rfl rfl dX11_sail_6 ?_
  refine lv_if_eq (tgt := 14) hx hb dX11_sail_9 (by decide) (fun c2 => ?_) (fun c2 => ?_)
  · replace hf := it_t c2 hf
    refine lv_aload_n hx hb dX11_sail_14 rfl (lv_at hl 0 rfl) ?_
    refine lv_iconst (v := 1) hx hb dX11_sail_15 (by decide) ?_
    refine r_put (k := 13) (x := 1) C hP hS tyX11 tyX11_ok nmX11 oM_0 rfl iX11 (by decide) wm_t1030 rfl rfl sM_0_13 rfl rfl (Nat.le_of_ble_eq_true rfl) dX11_sail_16 (fun H locs hP hS => ?_)
    obtain ⟨σ3, eσ3, hf⟩ := nmS_e hf
    rw [← eσ3] at hP
    refine lv_aload_n hx hb dX11_sail_19 rfl (lv_at hl 0 rfl) ?_
    refine r_get (k := 14) (v := .ref (ea E 10)) C hP oM_0 rfl iX11 (by decide) wm_t1031 rfl rfl dX11_sail_20 ?_
    refine lv_iconst (v := 0) hx hb dX11_sail_23 (by decide) ?_
    refine lv_iload_n hx hb dX11_sail_24 rfl (lv_at hl 1 rfl) ?_
    obtain ⟨h5, σ4, eσ4, hf⟩ := wrK_e hf
    refine r_ast C hP hS aM_10 h5 dX11_sail_25 (fun H locs hP hS => ?_)
    rw [← eσ4] at hP
    refine lv_iconst (v := 1) hx hb dX11_sail_26 (by decide) ?_
    cases hf
    exact r_zret C rfl hP hS dX11_sail_27
  · replace hf := it_f c2 hf
    refine lv_iconst (v := 0) hx hb dX11_sail_12 (by decide) ?_
    cases hf
    exact r_zret C rfl hP hS dX11_sail_13
def fX11_loaded_4B (σ : St) (rec4 : Int32 → Int32 → Option Int32) (x1 : Int32) (x2 : Int32) : Option Int32 :=
(if 144 ≤ x2 then
some x1
else
(rdK 288 (σ 5) x2 fun v2 =>
(if v2 ≤ 0 then
rec4 x1 (x2 + 1)
else
rec4 (x1 + 1) (x2 + 1))))
set_option maxHeartbeats 4000000 in
theorem b_fX11_loaded_4B {E : Ev} {l : Launch} {p : Program} {e : Env} {s : State} {m : MethodId} {args : Array Value} {below : List Frame} {meth : Method} {c : Code} (σ : St) (C : CX false E RX11 cX11_loaded 3 (some .int) p s m args meth c) {rr : Int32} (rec4 : Int32 → Int32 → Option Int32) (hr4 : ∀  (x1 : Int32) (x2 : Int32), rec4 x1 x2 = some rr → GW false l (rmD 1) E 3 p e s m args below meth c (MQ below (QI false E rr σ s.heap.size) args s 0 0 (aW false E s.heap.size)) σ 4 [(0, .ref (ea E 0)), (1, .int x1), (2, .int x2)] []) : ∀  (x1 : Int32) (x2 : Int32), fX11_loaded_4B σ rec4 x1 x2 = some rr → GW false l (rmD 1) E 3 p e s m args below meth c (MQ below (QI false E rr σ s.heap.size) args s 0 0 (aW false E s.heap.size)) σ 4 [(0, .ref (ea E 0)), (1, .int x1), (2, .int x2)] [] := by
  intro x1 x2 hf H locs ls hP hS hl
  obtain ⟨hx, hb, hr, hml, hown, hts, hlocks, hK, hX, hj⟩ := id C
  unfold fX11_loaded_4B at hf
  refine lv_iload_n hx hb dX11_loaded_4 rfl (lv_at hl 2 rfl) ?_
  refine lv_sipush (v := 144) hx hb dX11_loaded_5 (by decide) ?_
  refine lv_icmp_ge (tgt := 30) hx hb dX11_loaded_8 (by decide) (fun c1 => ?_) (fun c1 => ?_)
  · replace hf := it_t c1 hf
    refine lv_iload_n hx hb dX11_loaded_30 rfl (lv_at hl 1 rfl) ?_
    cases hf
    exact r_iret C hP hS dX11_loaded_31
  · replace hf := it_f c1 hf
    refine lv_aload_n hx hb dX11_loaded_11 rfl (lv_at hl 0 rfl) ?_
    refine r_get (k := 7) (v := .ref (ea E 5)) C hP oM_0 rfl iX11 (by decide) wm_t1024 rfl rfl dX11_loaded_12 ?_
    refine lv_iload_n hx hb dX11_loaded_15 rfl (lv_at hl 2 rfl) ?_
    have h3 := (rdK_e hf).1
    refine r_ald C hP aM_5 h3 dX11_loaded_16 ?_
    refine lv_topi (fun v2 ev2 => ?_)
    replace hf := rdK_n ev2 hf
    refine lv_if_le (tgt := 24) hx hb dX11_loaded_17 (by decide) (fun c4 => ?_) (fun c4 => ?_)
    · replace hf := it_t c4 hf
      refine lv_iinc (v := (x2 + 1)) (lv' := [(2, .int (x2 + 1)), (0, .ref (ea E 0)), (1, .int x1)]) hx hb dX11_loaded_24 hl (k := 2) rfl rfl (by decide) rfl (fun ls hl => ?_)
      refine lv_goto (tgt := 4) hx hb dX11_loaded_27 (by decide) ?_
      exact hr4 x1 (x2 + 1) hf H locs ls hP hS (lv_sub hl [1, 2, 0] rfl)
    · replace hf := it_f c4 hf
      refine lv_iload_n hx hb dX11_loaded_20 rfl (lv_at hl 1 rfl) ?_
      refine lv_iconst (v := 1) hx hb dX11_loaded_21 (by decide) ?_
      refine lv_iadd hx hb dX11_loaded_22 ?_
      refine lv_istore_n (lv' := [(1, .int (x1 + 1)), (0, .ref (ea E 0)), (2, .int x2)]) hx hb dX11_loaded_23 rfl hl (by decide) rfl (fun ls hl => ?_)
      refine lv_iinc (v := (x2 + 1)) (lv' := [(2, .int (x2 + 1)), (1, .int (x1 + 1)), (0, .ref (ea E 0))]) hx hb dX11_loaded_24 hl (k := 2) rfl rfl (by decide) rfl (fun ls hl => ?_)
      refine lv_goto (tgt := 4) hx hb dX11_loaded_27 (by decide) ?_
      exact hr4 (x1 + 1) (x2 + 1) hf H locs ls hP hS (lv_sub hl [2, 1, 0] rfl)
def fX11_loaded_4 (σ : St) : Nat → Int32 → Int32 → Option Int32
  | 0 => fun _ _ => none
  | n + 1 => fun x1 x2 => fX11_loaded_4B σ (fX11_loaded_4 σ n) x1 x2
theorem b_fX11_loaded_4 {E : Ev} {l : Launch} {p : Program} {e : Env} {s : State} {m : MethodId} {args : Array Value} {below : List Frame} {meth : Method} {c : Code} (σ : St) (C : CX false E RX11 cX11_loaded 3 (some .int) p s m args meth c) {rr : Int32} : ∀ (n : Nat) (x1 : Int32) (x2 : Int32), fX11_loaded_4 σ n x1 x2 = some rr → GW false l (rmD 1) E 3 p e s m args below meth c (MQ below (QI false E rr σ s.heap.size) args s 0 0 (aW false E s.heap.size)) σ 4 [(0, .ref (ea E 0)), (1, .int x1), (2, .int x2)] [] := by
  intro n
  induction n with
  | zero => intro x1 x2 hf; have hf : (none : Option _) = some _ := hf; cases hf
  | succ n ih => intro x1 x2 hf; exact b_fX11_loaded_4B σ C (fX11_loaded_4 σ n) ih x1 x2 hf
def fX11_loaded (σ : St) : Option Int32 :=
fX11_loaded_4 σ FU 0 0
set_option maxHeartbeats 4000000 in
theorem c_fX11_loaded {E : Ev} {l : Launch} (hj : jW false E) (σ : St) (sz : Nat) {rr : Int32} (hf : fX11_loaded σ = some rr) : Met l yX11_loaded (Cond.code yX11_loaded cX11_loaded 3 (some .int) :: gT) (rmD 1) (va_Pc [.ref (ea E 0)] (preW false E σ sz)) (QI false E rr σ sz) 0 0 (aW false E sz) := by
  refine r_entry (QI false E rr σ) hj (by decide) [.ref (ea E 0)] (Nat.le_of_ble_eq_true rfl) (fun p e s m args below meth c C => ?_)
  intro H locs ls hP hS hl
  have hl : lv_has ls 3 [(0, .ref (ea E 0))] := hl
  obtain ⟨hx, hb, hr, hml, hown, hts, hlocks, hK, hX, hj⟩ := id C
  unfold fX11_loaded at hf
  refine lv_iconst (v := 0) hx hb dX11_loaded_0 (by decide) ?_
  refine lv_istore_n (lv' := [(1, .int 0), (0, .ref (ea E 0))]) hx hb dX11_loaded_1 rfl hl (by decide) rfl (fun ls hl => ?_)
  refine lv_iconst (v := 0) hx hb dX11_loaded_2 (by decide) ?_
  refine lv_istore_n (lv' := [(2, .int 0), (1, .int 0), (0, .ref (ea E 0))]) hx hb dX11_loaded_3 rfl hl (by decide) rfl (fun ls hl => ?_)
  exact b_fX11_loaded_4 σ C FU 0 0 hf H locs ls hP hS (lv_sub hl [2, 1, 0] rfl)
def fX11_ship_138B (rec138 : St → Int32 → Int32 → Option (Int32 × St)) (σ : St) (x2 : Int32) (x3 : Int32) : Option (Int32 × St) :=
(if 144 ≤ x3 then
some (x2, σ)
else
(rdK 288 (σ 8) x3 fun v2 =>
(if v2 = 0 then
rec138 σ x2 (x3 + 1)
else
rec138 σ (x2 + 1) (x3 + 1))))
set_option maxHeartbeats 4000000 in
theorem b_fX11_ship_138B {E : Ev} {l : Launch} {p : Program} {e : Env} {s : State} {m : MethodId} {args : Array Value} {below : List Frame} {meth : Method} {c : Code} (C : CX false E RX11 cX11_ship 4 (some .int) p s m args meth c) {rr : Int32} {sr : St} (rec138 : St → Int32 → Int32 → Option (Int32 × St)) (hr138 : ∀ (σ : St) (x2 : Int32) (x3 : Int32), rec138 σ x2 x3 = some (rr, sr) → GW false l (rmD 3) E 4 p e s m args below meth c (MQ below (QI false E rr sr s.heap.size) args s 0 0 (aW false E s.heap.size)) σ 138 [(0, .ref (ea E 0)), (2, .int x2), (3, .int x3)] []) : ∀ (σ : St) (x2 : Int32) (x3 : Int32), fX11_ship_138B rec138 σ x2 x3 = some (rr, sr) → GW false l (rmD 3) E 4 p e s m args below meth c (MQ below (QI false E rr sr s.heap.size) args s 0 0 (aW false E s.heap.size)) σ 138 [(0, .ref (ea E 0)), (2, .int x2), (3, .int x3)] [] := by
  intro σ x2 x3 hf H locs ls hP hS hl
  obtain ⟨hx, hb, hr, hml, hown, hts, hlocks, hK, hX, hj⟩ := id C
  unfold fX11_ship_138B at hf
  refine lv_iload_n hx hb dX11_ship_138 rfl (lv_at hl 2 rfl) ?_
  refine lv_sipush (v := 144) hx hb dX11_ship_139 (by decide) ?_
  refine lv_icmp_ge (tgt := 164) hx hb dX11_ship_142 (by decide) (fun c1 => ?_) (fun c1 => ?_)
  · replace hf := it_t c1 hf
    refine lv_iload_n hx hb dX11_ship_164 rfl (lv_at hl 1 rfl) ?_
    cases hf
    exact r_iret C hP hS dX11_ship_165
  · replace hf := it_f c1 hf
    refine lv_aload_n hx hb dX11_ship_145 rfl (lv_at hl 0 rfl) ?_
    refine r_get (k := 10) (v := .ref (ea E 8)) C hP oM_0 rfl iX11 (by decide) wm_t1027 rfl rfl dX11_ship_146 ?_
    refine lv_iload_n hx hb dX11_ship_149 rfl (lv_at hl 2 rfl) ?_
    have h3 := (rdK_e hf).1
    refine r_zald C hP aM_8 h3 dX11_ship_150 ?_
    refine lv_topi (fun v2 ev2 => ?_)
    replace hf := rdK_n ev2 hf
    refine lv_if_eq (tgt := 158) hx hb dX11_ship_151 (by decide) (fun c4 => ?_) (fun c4 => ?_)
    · replace hf := it_t c4 hf
      refine lv_iinc (v := (x3 + 1)) (lv' := [(3, .int (x3 + 1)), (0, .ref (ea E 0)), (2, .int x2)]) hx hb dX11_ship_158 hl (k := 2) rfl rfl (by decide) rfl (fun ls hl => ?_)
      refine lv_goto (tgt := 138) hx hb dX11_ship_161 (by decide) ?_
      exact hr138 σ x2 (x3 + 1) hf H locs ls hP hS (lv_sub hl [1, 2, 0] rfl)
    · replace hf := it_f c4 hf
      refine lv_iload_n hx hb dX11_ship_154 rfl (lv_at hl 1 rfl) ?_
      refine lv_iconst (v := 1) hx hb dX11_ship_155 (by decide) ?_
      refine lv_iadd hx hb dX11_ship_156 ?_
      refine lv_istore_n (lv' := [(2, .int (x2 + 1)), (0, .ref (ea E 0)), (3, .int x3)]) hx hb dX11_ship_157 rfl hl (by decide) rfl (fun ls hl => ?_)
      refine lv_iinc (v := (x3 + 1)) (lv' := [(3, .int (x3 + 1)), (2, .int (x2 + 1)), (0, .ref (ea E 0))]) hx hb dX11_ship_158 hl (k := 2) rfl rfl (by decide) rfl (fun ls hl => ?_)
      refine lv_goto (tgt := 138) hx hb dX11_ship_161 (by decide) ?_
      exact hr138 σ (x2 + 1) (x3 + 1) hf H locs ls hP hS (lv_sub hl [2, 1, 0] rfl)
def fX11_ship_138 : Nat → St → Int32 → Int32 → Option (Int32 × St)
  | 0 => fun _ _ _ => none
  | n + 1 => fun σ x2 x3 => fX11_ship_138B (fX11_ship_138 n) σ x2 x3
theorem b_fX11_ship_138 {E : Ev} {l : Launch} {p : Program} {e : Env} {s : State} {m : MethodId} {args : Array Value} {below : List Frame} {meth : Method} {c : Code} (C : CX false E RX11 cX11_ship 4 (some .int) p s m args meth c) {rr : Int32} {sr : St} : ∀ (n : Nat) (σ : St) (x2 : Int32) (x3 : Int32), fX11_ship_138 n σ x2 x3 = some (rr, sr) → GW false l (rmD 3) E 4 p e s m args below meth c (MQ below (QI false E rr sr s.heap.size) args s 0 0 (aW false E s.heap.size)) σ 138 [(0, .ref (ea E 0)), (2, .int x2), (3, .int x3)] [] := by
  intro n
  induction n with
  | zero => intro σ x2 x3 hf; have hf : (none : Option _) = some _ := hf; cases hf
  | succ n ih => intro σ x2 x3 hf; exact b_fX11_ship_138B C (fX11_ship_138 n) ih σ x2 x3 hf
def fX11_ship (σ : St) (a0 : Int32) : Option (Int32 × St) :=
(nmS (st_put σ 0 0 0) fun σ1 =>
(if a0 = 0 then
some ((σ1 0 1), σ1)
else
(if a0 = 1 then
(if (σ1 0 13) = 0 then
some (0, σ1)
else
some (1, σ1))
else
(if a0 = 2 then
(cq (fX11_momentOf σ1 0) fun r23 =>
some (r23, σ1))
else
(if a0 = 3 then
(cq (fX11_weightOf σ1 0) fun r21 =>
some (r21, σ1))
else
(if a0 = 4 then
(rdK 2 (σ1 11) 0 fun v19 =>
some (v19, σ1))
else
(if a0 = 5 then
(rdK 2 (σ1 12) 0 fun v17 =>
some (v17, σ1))
else
(if a0 = 6 then
(rdK 2 (σ1 9) 0 fun v15 =>
some (v15, σ1))
else
(if a0 = 7 then
some ((σ1 0 11), σ1)
else
(if a0 = 8 then
(cq (fX11_loaded σ1) fun r13 =>
some (r13, σ1))
else
(if a0 = 10 then
some ((σ1 0 2), σ1)
else
(if a0 = 9 then
fX11_ship_138 FU σ1 0 0
else
some ((-1000000), σ1)))))))))))))
set_option maxHeartbeats 4000000 in
theorem c_fX11_ship {E : Ev} {l : Launch} (hj : jW false E) (σ : St) (sz : Nat) (a0 : Int32) {rr : Int32} {sr : St} (hf : fX11_ship σ a0 = some (rr, sr)) : Met l yX11_ship (Cond.code yX11_ship cX11_ship 4 (some .int) :: gT) (rmD 3) (va_Pc [.ref (ea E 0), .int a0] (preW false E σ sz)) (QI false E rr sr sz) 0 0 (aW false E sz) := by
  refine r_entry (QI false E rr sr) hj (by decide) [.ref (ea E 0), .int a0] (Nat.le_of_ble_eq_true rfl) (fun p e s m args below meth c C => ?_)
  intro H locs ls hP hS hl
  have hl : lv_has ls 4 [(0, .ref (ea E 0)), (1, .int a0)] := hl
  obtain ⟨hx, hb, hr, hml, hown, hts, hlocks, hK, hX, hj⟩ := id C
  unfold fX11_ship at hf
  refine lv_aload_n hx hb dX11_ship_0 rfl (lv_at hl 0 rfl) ?_
  refine lv_iconst (v := 0) hx hb dX11_ship_1 (by decide) ?_
  refine r_put (k := 0) (x := 0) C hP hS tyX11 tyX11_ok nmX11 oM_0 rfl iX11 (by decide) wm_t1017 rfl rfl sM_0_0 rfl rfl (Nat.le_of_ble_eq_true rfl) dX11_ship_2 (fun H locs hP hS => ?_)
  obtain ⟨σ1, eσ1, hf⟩ := nmS_e hf
  rw [← eσ1] at hP
  refine lv_iload_n hx hb dX11_ship_5 rfl (lv_at hl 1 rfl) ?_
  refine lv_if_ne (tgt := 14) hx hb dX11_ship_6 (by decide) (fun c2 => ?_) (fun c2 => ?_)
  · replace hf := it_f c2 hf
    refine lv_iload_n hx hb dX11_ship_14 rfl (lv_at hl 1 rfl) ?_
    refine lv_iconst (v := 1) hx hb dX11_ship_15 (by decide) ?_
    refine lv_icmp_ne (tgt := 32) hx hb dX11_ship_16 (by decide) (fun c3 => ?_) (fun c3 => ?_)
    · replace hf := it_f c3 hf
      refine lv_iload_n hx hb dX11_ship_32 rfl (lv_at hl 1 rfl) ?_
      refine lv_iconst (v := 2) hx hb dX11_ship_33 (by decide) ?_
      refine lv_icmp_ne (tgt := 43) hx hb dX11_ship_34 (by decide) (fun c4 => ?_) (fun c4 => ?_)
      · replace hf := it_f c4 hf
        refine lv_iload_n hx hb dX11_ship_43 rfl (lv_at hl 1 rfl) ?_
        refine lv_iconst (v := 3) hx hb dX11_ship_44 (by decide) ?_
        refine lv_icmp_ne (tgt := 54) hx hb dX11_ship_45 (by decide) (fun c5 => ?_) (fun c5 => ?_)
        · replace hf := it_f c5 hf
          refine lv_iload_n hx hb dX11_ship_54 rfl (lv_at hl 1 rfl) ?_
          refine lv_iconst (v := 4) hx hb dX11_ship_55 (by decide) ?_
          refine lv_icmp_ne (tgt := 66) hx hb dX11_ship_56 (by decide) (fun c6 => ?_) (fun c6 => ?_)
          · replace hf := it_f c6 hf
            refine lv_iload_n hx hb dX11_ship_66 rfl (lv_at hl 1 rfl) ?_
            refine lv_iconst (v := 5) hx hb dX11_ship_67 (by decide) ?_
            refine lv_icmp_ne (tgt := 78) hx hb dX11_ship_68 (by decide) (fun c7 => ?_) (fun c7 => ?_)
            · replace hf := it_f c7 hf
              refine lv_iload_n hx hb dX11_ship_78 rfl (lv_at hl 1 rfl) ?_
              refine lv_bipush (v := 6) hx hb dX11_ship_79 (by decide) ?_
              refine lv_icmp_ne (tgt := 91) hx hb dX11_ship_81 (by decide) (fun c8 => ?_) (fun c8 => ?_)
              · replace hf := it_f c8 hf
                refine lv_iload_n hx hb dX11_ship_91 rfl (lv_at hl 1 rfl) ?_
                refine lv_bipush (v := 7) hx hb dX11_ship_92 (by decide) ?_
                refine lv_icmp_ne (tgt := 102) hx hb dX11_ship_94 (by decide) (fun c9 => ?_) (fun c9 => ?_)
                · replace hf := it_f c9 hf
                  refine lv_iload_n hx hb dX11_ship_102 rfl (lv_at hl 1 rfl) ?_
                  refine lv_bipush (v := 8) hx hb dX11_ship_103 (by decide) ?_
                  refine lv_icmp_ne (tgt := 113) hx hb dX11_ship_105 (by decide) (fun c10 => ?_) (fun c10 => ?_)
                  · replace hf := it_f c10 hf
                    refine lv_iload_n hx hb dX11_ship_113 rfl (lv_at hl 1 rfl) ?_
                    refine lv_bipush (v := 10) hx hb dX11_ship_114 (by decide) ?_
                    refine lv_icmp_ne (tgt := 124) hx hb dX11_ship_116 (by decide) (fun c11 => ?_) (fun c11 => ?_)
                    · replace hf := it_f c11 hf
                      refine lv_iload_n hx hb dX11_ship_124 rfl (lv_at hl 1 rfl) ?_
                      refine lv_bipush (v := 9) hx hb dX11_ship_125 (by decide) ?_
                      refine lv_icmp_eq (tgt := 134) hx hb dX11_ship_127 (by decide) (fun c12 => ?_) (fun c12 => ?_)
                      · replace hf := it_t c12 hf
                        refine lv_iconst (v := 0) hx hb dX11_ship_134 (by decide) ?_
                        refine lv_istore_n (lv' := [(2, .int 0), (0, .ref (ea E 0)), (1, .int a0)]) hx hb dX11_ship_135 rfl hl (by decide) rfl (fun ls hl => ?_)
                        refine lv_iconst (v := 0) hx hb dX11_ship_136 (by decide) ?_
                        refine lv_istore_n (lv' := [(3, .int 0), (2, .int 0), (0, .ref (ea E 0)), (1, .int a0)]) hx hb dX11_ship_137 rfl hl (by decide) rfl (fun ls hl => ?_)
                        exact b_fX11_ship_138 C FU σ1 0 0 hf H locs ls hP hS (lv_sub hl [2, 1, 0] rfl)
                      · replace hf := it_f c12 hf
                        refine lv_ldcw (v := (-1000000)) hx hb hown (hts _ wm_t1359) dX11_ship_130 ?_
                        cases hf
                        exact r_iret C hP hS dX11_ship_133
                    · replace hf := it_t c11 hf
                      refine lv_aload_n hx hb dX11_ship_119 rfl (lv_at hl 0 rfl) ?_
                      refine r_get (k := 2) (v := .int (σ1 0 2)) C hP oM_0 rfl iX11 (by decide) wm_t1019 rfl rfl dX11_ship_120 ?_
                      cases hf
                      exact r_iret C hP hS dX11_ship_123
                  · replace hf := it_t c10 hf
                    refine lv_aload_n hx hb dX11_ship_108 rfl (lv_at hl 0 rfl) ?_
                    obtain ⟨r13, hc14, hf⟩ := cq_e hf
                    refine r_cVi (n := 0) (As := []) (rest := []) C (c_fX11_loaded hj σ1 H.size hc14) oM_0 rfl gv_RX11_353 (by decide +kernel) (rmD_le (by decide) (by decide)) rfl rfl (Nat.le_of_ble_eq_true rfl) dX11_ship_109 hP hS hl.1 (fun H locs hP hS => ?_)
                    cases hf
                    exact r_iret C hP hS dX11_ship_112
                · replace hf := it_t c9 hf
                  refine lv_aload_n hx hb dX11_ship_97 rfl (lv_at hl 0 rfl) ?_
                  refine r_get (k := 11) (v := .int (σ1 0 11)) C hP oM_0 rfl iX11 (by decide) wm_t1028 rfl rfl dX11_ship_98 ?_
                  cases hf
                  exact r_iret C hP hS dX11_ship_101
              · replace hf := it_t c8 hf
                refine lv_aload_n hx hb dX11_ship_84 rfl (lv_at hl 0 rfl) ?_
                refine r_get (k := 12) (v := .ref (ea E 9)) C hP oM_0 rfl iX11 (by decide) wm_t1029 rfl rfl dX11_ship_85 ?_
                refine lv_iconst (v := 0) hx hb dX11_ship_88 (by decide) ?_
                have h16 := (rdK_e hf).1
                refine r_ald C hP aM_9 h16 dX11_ship_89 ?_
                refine lv_topi (fun v15 ev15 => ?_)
                replace hf := rdK_n ev15 hf
                cases hf
                exact r_iret C hP hS dX11_ship_90
            · replace hf := it_t c7 hf
              refine lv_aload_n hx hb dX11_ship_71 rfl (lv_at hl 0 rfl) ?_
              refine r_get (k := 16) (v := .ref (ea E 12)) C hP oM_0 rfl iX11 (by decide) wm_t1033 rfl rfl dX11_ship_72 ?_
              refine lv_iconst (v := 0) hx hb dX11_ship_75 (by decide) ?_
              have h18 := (rdK_e hf).1
              refine r_ald C hP aM_12 h18 dX11_ship_76 ?_
              refine lv_topi (fun v17 ev17 => ?_)
              replace hf := rdK_n ev17 hf
              cases hf
              exact r_iret C hP hS dX11_ship_77
          · replace hf := it_t c6 hf
            refine lv_aload_n hx hb dX11_ship_59 rfl (lv_at hl 0 rfl) ?_
            refine r_get (k := 15) (v := .ref (ea E 11)) C hP oM_0 rfl iX11 (by decide) wm_t1032 rfl rfl dX11_ship_60 ?_
            refine lv_iconst (v := 0) hx hb dX11_ship_63 (by decide) ?_
            have h20 := (rdK_e hf).1
            refine r_ald C hP aM_11 h20 dX11_ship_64 ?_
            refine lv_topi (fun v19 ev19 => ?_)
            replace hf := rdK_n ev19 hf
            cases hf
            exact r_iret C hP hS dX11_ship_65
        · replace hf := it_t c5 hf
          refine lv_aload_n hx hb dX11_ship_48 rfl (lv_at hl 0 rfl) ?_
          refine lv_iconst (v := 0) hx hb dX11_ship_49 (by decide) ?_
          obtain ⟨r21, hc22, hf⟩ := cq_e hf
          refine r_cVi (n := 1) (As := [.int 0]) (rest := []) C (c_fX11_weightOf hj σ1 H.size 0 hc22) oM_0 rfl gv_RX11_332 (by decide +kernel) (rmD_le (by decide) (by decide)) rfl rfl (Nat.le_of_ble_eq_true rfl) dX11_ship_50 hP hS hl.1 (fun H locs hP hS => ?_)
          cases hf
          exact r_iret C hP hS dX11_ship_53
      · replace hf := it_t c4 hf
        refine lv_aload_n hx hb dX11_ship_37 rfl (lv_at hl 0 rfl) ?_
        refine lv_iconst (v := 0) hx hb dX11_ship_38 (by decide) ?_
        obtain ⟨r23, hc24, hf⟩ := cq_e hf
        refine r_cVi (n := 1) (As := [.int 0]) (rest := []) C (c_fX11_momentOf hj σ1 H.size 0 hc24) oM_0 rfl gv_RX11_329 (by decide +kernel) (rmD_le (by decide) (by decide)) rfl rfl (Nat.le_of_ble_eq_true rfl) dX11_ship_39 hP hS hl.1 (fun H locs hP hS => ?_)
        cases hf
        exact r_iret C hP hS dX11_ship_42
    · replace hf := it_t c3 hf
      refine lv_aload_n hx hb dX11_ship_19 rfl (lv_at hl 0 rfl) ?_
      refine r_get (k := 13) (v := .int (σ1 0 13)) C hP oM_0 rfl iX11 (by decide) wm_t1030 rfl rfl dX11_ship_20 ?_
      refine lv_if_eq (tgt := 30) hx hb dX11_ship_23 (by decide) (fun c25 => ?_) (fun c25 => ?_)
      · replace hf := it_t c25 hf
        refine lv_iconst (v := 0) hx hb dX11_ship_30 (by decide) ?_
        cases hf
        exact r_iret C hP hS dX11_ship_31
      · replace hf := it_f c25 hf
        refine lv_iconst (v := 1) hx hb dX11_ship_26 (by decide) ?_
        refine lv_goto (tgt := 31) hx hb dX11_ship_27 (by decide) ?_
        cases hf
        exact r_iret C hP hS dX11_ship_31
  · replace hf := it_t c2 hf
    refine lv_aload_n hx hb dX11_ship_9 rfl (lv_at hl 0 rfl) ?_
    refine r_get (k := 1) (v := .int (σ1 0 1)) C hP oM_0 rfl iX11 (by decide) wm_t1018 rfl rfl dX11_ship_10 ?_
    cases hf
    exact r_iret C hP hS dX11_ship_13
def fX11_arms (σ : St) (a0 : Int32) : Option (Int32 × St) :=
(nmS (st_put σ 0 0 0) fun σ1 =>
(if (fX11_isIn a0 0 60) = 0 then
some ((-1), σ1)
else
(cq (fX11_armAt σ1 a0) fun r3 =>
some (r3, σ1))))
set_option maxHeartbeats 4000000 in
theorem c_fX11_arms {E : Ev} {l : Launch} (hj : jW false E) (σ : St) (sz : Nat) (a0 : Int32) {rr : Int32} {sr : St} (hf : fX11_arms σ a0 = some (rr, sr)) : Met l yX11_arms (Cond.code yX11_arms cX11_arms 2 (some .int) :: gT) (rmD 2) (va_Pc [.ref (ea E 0), .int a0] (preW false E σ sz)) (QI false E rr sr sz) 0 0 (aW false E sz) := by
  refine r_entry (QI false E rr sr) hj (by decide) [.ref (ea E 0), .int a0] (Nat.le_of_ble_eq_true rfl) (fun p e s m args below meth c C => ?_)
  intro H locs ls hP hS hl
  have hl : lv_has ls 2 [(0, .ref (ea E 0)), (1, .int a0)] := hl
  obtain ⟨hx, hb, hr, hml, hown, hts, hlocks, hK, hX, hj⟩ := id C
  unfold fX11_arms at hf
  refine lv_aload_n hx hb dX11_arms_0 rfl (lv_at hl 0 rfl) ?_
  refine lv_iconst (v := 0) hx hb dX11_arms_1 (by decide) ?_
  refine r_put (k := 0) (x := 0) C hP hS tyX11 tyX11_ok nmX11 oM_0 rfl iX11 (by decide) wm_t1017 rfl rfl sM_0_0 rfl rfl (Nat.le_of_ble_eq_true rfl) dX11_arms_2 (fun H locs hP hS => ?_)
  obtain ⟨σ1, eσ1, hf⟩ := nmS_e hf
  rw [← eσ1] at hP
  refine lv_aload_n hx hb dX11_arms_5 rfl (lv_at hl 0 rfl) ?_
  refine lv_iload_n hx hb dX11_arms_6 rfl (lv_at hl 1 rfl) ?_
  refine lv_iconst (v := 0) hx hb dX11_arms_7 (by decide) ?_
  refine lv_bipush (v := 60) hx hb dX11_arms_8 (by decide) ?_
  refine r_cVi (n := 3) (As := [.int a0, .int 0, .int 60]) (rest := []) C (c_fX11_isIn hj σ1 H.size a0 0 60) oM_0 rfl gv_RX11_144 (by decide +kernel) (rmD_le (by decide) (by decide)) rfl rfl (Nat.le_of_ble_eq_true rfl) dX11_arms_10 hP hS hl.1 (fun H locs hP hS => ?_)
  refine lv_if_eq (tgt := 24) hx hb dX11_arms_13 (by decide) (fun c2 => ?_) (fun c2 => ?_)
  · replace hf := it_t c2 hf
    refine lv_iconst (v := (-1)) hx hb dX11_arms_24 (by decide) ?_
    cases hf
    exact r_iret C hP hS dX11_arms_25
  · replace hf := it_f c2 hf
    refine lv_aload_n hx hb dX11_arms_16 rfl (lv_at hl 0 rfl) ?_
    refine lv_iload_n hx hb dX11_arms_17 rfl (lv_at hl 1 rfl) ?_
    obtain ⟨r3, hc4, hf⟩ := cq_e hf
    refine r_cVi (n := 1) (As := [.int a0]) (rest := []) C (c_fX11_armAt hj σ1 H.size a0 hc4) oM_0 rfl gv_RX11_317 (by decide +kernel) (rmD_le (by decide) (by decide)) rfl rfl (Nat.le_of_ble_eq_true rfl) dX11_arms_18 hP hS hl.1 (fun H locs hP hS => ?_)
    refine lv_goto (tgt := 25) hx hb dX11_arms_21 (by decide) ?_
    cases hf
    exact r_iret C hP hS dX11_arms_25
def fX11_worstOf_4B (rec4 : Int32 → Int32 → Int32 → Option Int32) (x1 : Int32) (x2 : Int32) (x3 : Int32) : Option Int32 :=
(if x1 ≤ x3 then
some x2
else
rec4 x1 ((x2 + 5) - (2 * (x3 / 6))) (x3 + 1))
set_option maxHeartbeats 4000000 in
theorem b_fX11_worstOf_4B {E : Ev} {l : Launch} {p : Program} {e : Env} {s : State} {m : MethodId} {args : Array Value} {below : List Frame} {meth : Method} {c : Code} (σ : St) (C : CX false E RX11 cX11_worstOf 4 (some .int) p s m args meth c) {rr : Int32} (rec4 : Int32 → Int32 → Int32 → Option Int32) (hr4 : ∀  (x1 : Int32) (x2 : Int32) (x3 : Int32), rec4 x1 x2 x3 = some rr → GW false l (rmD 1) E 4 p e s m args below meth c (MQ below (QI false E rr σ s.heap.size) args s 0 0 (aW false E s.heap.size)) σ 4 [(1, .int x1), (2, .int x2), (3, .int x3)] []) : ∀  (x1 : Int32) (x2 : Int32) (x3 : Int32), fX11_worstOf_4B rec4 x1 x2 x3 = some rr → GW false l (rmD 1) E 4 p e s m args below meth c (MQ below (QI false E rr σ s.heap.size) args s 0 0 (aW false E s.heap.size)) σ 4 [(1, .int x1), (2, .int x2), (3, .int x3)] [] := by
  intro x1 x2 x3 hf H locs ls hP hS hl
  obtain ⟨hx, hb, hr, hml, hown, hts, hlocks, hK, hX, hj⟩ := id C
  unfold fX11_worstOf_4B at hf
  refine lv_iload_n hx hb dX11_worstOf_4 rfl (lv_at hl 2 rfl) ?_
  refine lv_iload_n hx hb dX11_worstOf_5 rfl (lv_at hl 0 rfl) ?_
  refine lv_icmp_ge (tgt := 26) hx hb dX11_worstOf_6 (by decide) (fun c1 => ?_) (fun c1 => ?_)
  · replace hf := it_t c1 hf
    refine lv_iload_n hx hb dX11_worstOf_26 rfl (lv_at hl 1 rfl) ?_
    cases hf
    exact r_iret C hP hS dX11_worstOf_27
  · replace hf := it_f c1 hf
    refine lv_iload_n hx hb dX11_worstOf_9 rfl (lv_at hl 1 rfl) ?_
    refine lv_iconst (v := 5) hx hb dX11_worstOf_10 (by decide) ?_
    refine lv_iadd hx hb dX11_worstOf_11 ?_
    refine lv_iconst (v := 2) hx hb dX11_worstOf_12 (by decide) ?_
    refine lv_iload_n hx hb dX11_worstOf_13 rfl (lv_at hl 2 rfl) ?_
    refine lv_bipush (v := 6) hx hb dX11_worstOf_14 (by decide) ?_
    refine lv_idiv hx hb dX11_worstOf_16 (by decide) ?_
    refine lv_imul hx hb dX11_worstOf_17 ?_
    refine lv_isub hx hb dX11_worstOf_18 ?_
    refine lv_istore_n (lv' := [(2, .int ((x2 + 5) - (2 * (x3 / 6)))), (1, .int x1), (3, .int x3)]) hx hb dX11_worstOf_19 rfl hl (by decide) rfl (fun ls hl => ?_)
    refine lv_iinc (v := (x3 + 1)) (lv' := [(3, .int (x3 + 1)), (2, .int ((x2 + 5) - (2 * (x3 / 6)))), (1, .int x1)]) hx hb dX11_worstOf_20 hl (k := 2) rfl rfl (by decide) rfl (fun ls hl => ?_)
    refine lv_goto (tgt := 4) hx hb dX11_worstOf_23 (by decide) ?_
    exact hr4 x1 ((x2 + 5) - (2 * (x3 / 6))) (x3 + 1) hf H locs ls hP hS (lv_sub hl [2, 1, 0] rfl)
def fX11_worstOf_4 : Nat → Int32 → Int32 → Int32 → Option Int32
  | 0 => fun _ _ _ => none
  | n + 1 => fun x1 x2 x3 => fX11_worstOf_4B (fX11_worstOf_4 n) x1 x2 x3
theorem b_fX11_worstOf_4 {E : Ev} {l : Launch} {p : Program} {e : Env} {s : State} {m : MethodId} {args : Array Value} {below : List Frame} {meth : Method} {c : Code} (σ : St) (C : CX false E RX11 cX11_worstOf 4 (some .int) p s m args meth c) {rr : Int32} : ∀ (n : Nat) (x1 : Int32) (x2 : Int32) (x3 : Int32), fX11_worstOf_4 n x1 x2 x3 = some rr → GW false l (rmD 1) E 4 p e s m args below meth c (MQ below (QI false E rr σ s.heap.size) args s 0 0 (aW false E s.heap.size)) σ 4 [(1, .int x1), (2, .int x2), (3, .int x3)] [] := by
  intro n
  induction n with
  | zero => intro x1 x2 x3 hf; have hf : (none : Option _) = some _ := hf; cases hf
  | succ n ih => intro x1 x2 x3 hf; exact b_fX11_worstOf_4B σ C (fX11_worstOf_4 n) ih x1 x2 x3 hf
def fX11_worstOf (a0 : Int32) : Option Int32 :=
fX11_worstOf_4 FU a0 0 0
set_option maxHeartbeats 4000000 in
theorem c_fX11_worstOf {E : Ev} {l : Launch} (hj : jW false E) (σ : St) (sz : Nat) (a0 : Int32) {rr : Int32} (hf : fX11_worstOf a0 = some rr) : Met l yX11_worstOf (Cond.code yX11_worstOf cX11_worstOf 4 (some .int) :: gT) (rmD 1) (va_Pc [.ref (ea E 0), .int a0] (preW false E σ sz)) (QI false E rr σ sz) 0 0 (aW false E sz) := by
  refine r_entry (QI false E rr σ) hj (by decide) [.ref (ea E 0), .int a0] (Nat.le_of_ble_eq_true rfl) (fun p e s m args below meth c C => ?_)
  intro H locs ls hP hS hl
  have hl : lv_has ls 4 [(0, .ref (ea E 0)), (1, .int a0)] := hl
  obtain ⟨hx, hb, hr, hml, hown, hts, hlocks, hK, hX, hj⟩ := id C
  unfold fX11_worstOf at hf
  refine lv_iconst (v := 0) hx hb dX11_worstOf_0 (by decide) ?_
  refine lv_istore_n (lv' := [(2, .int 0), (0, .ref (ea E 0)), (1, .int a0)]) hx hb dX11_worstOf_1 rfl hl (by decide) rfl (fun ls hl => ?_)
  refine lv_iconst (v := 0) hx hb dX11_worstOf_2 (by decide) ?_
  refine lv_istore_n (lv' := [(3, .int 0), (2, .int 0), (0, .ref (ea E 0)), (1, .int a0)]) hx hb dX11_worstOf_3 rfl hl (by decide) rfl (fun ls hl => ?_)
  exact b_fX11_worstOf_4 σ C FU a0 0 0 hf H locs ls hP hS (lv_sub hl [3, 1, 0] rfl)
def fX11_worstKept (σ : St) (a0 : Int32) : Option (Int32 × St) :=
(rdK 37 (σ 29) a0 fun v1 =>
(if v1 = 0 then
(cq (fX11_worstOf a0) fun r6 =>
(wrK 37 σ 29 a0 (r6 + 1000) fun σ8 =>
(rdK 37 (σ8 29) a0 fun v10 =>
some ((v10 - 1000), σ8))))
else
(rdK 37 (σ 29) a0 fun v4 =>
some ((v4 - 1000), σ))))
set_option maxHeartbeats 4000000 in
theorem c_fX11_worstKept {E : Ev} {l : Launch} (hj : jW false E) (σ : St) (sz : Nat) (a0 : Int32) {rr : Int32} {sr : St} (hf : fX11_worstKept σ a0 = some (rr, sr)) : Met l yX11_worstKept (Cond.code yX11_worstKept cX11_worstKept 2 (some .int) :: gT) (rmD 2) (va_Pc [.ref (ea E 0), .int a0] (preW false E σ sz)) (QI false E rr sr sz) 0 0 (aW false E sz) := by
  refine r_entry (QI false E rr sr) hj (by decide) [.ref (ea E 0), .int a0] (Nat.le_of_ble_eq_true rfl) (fun p e s m args below meth c C => ?_)
  intro H locs ls hP hS hl
  have hl : lv_has ls 2 [(0, .ref (ea E 0)), (1, .int a0)] := hl
  obtain ⟨hx, hb, hr, hml, hown, hts, hlocks, hK, hX, hj⟩ := id C
  unfold fX11_worstKept at hf
  refine lv_aload_n hx hb dX11_worstKept_0 rfl (lv_at hl 0 rfl) ?_
  refine r_get (k := 47) (v := .ref (ea E 29)) C hP oM_0 rfl iX11 (by decide) wm_t1064 rfl rfl dX11_worstKept_1 ?_
  refine lv_iload_n hx hb dX11_worstKept_4 rfl (lv_at hl 1 rfl) ?_
  have h2 := (rdK_e hf).1
  refine r_ald C hP aM_29 h2 dX11_worstKept_5 ?_
  refine lv_topi (fun v1 ev1 => ?_)
  replace hf := rdK_n ev1 hf
  refine lv_if_ne (tgt := 24) hx hb dX11_worstKept_6 (by decide) (fun c3 => ?_) (fun c3 => ?_)
  · replace hf := it_f c3 hf
    refine lv_aload_n hx hb dX11_worstKept_24 rfl (lv_at hl 0 rfl) ?_
    refine r_get (k := 47) (v := .ref (ea E 29)) C hP oM_0 rfl iX11 (by decide) wm_t1064 rfl rfl dX11_worstKept_25 ?_
    refine lv_iload_n hx hb dX11_worstKept_28 rfl (lv_at hl 1 rfl) ?_
    have h5 := (rdK_e hf).1
    refine r_ald C hP aM_29 h5 dX11_worstKept_29 ?_
    refine lv_topi (fun v4 ev4 => ?_)
    replace hf := rdK_n ev4 hf
    refine lv_sipush (v := 1000) hx hb dX11_worstKept_30 (by decide) ?_
    refine lv_isub hx hb dX11_worstKept_33 ?_
    cases hf
    exact r_iret C hP hS dX11_worstKept_34
  · replace hf := it_t c3 hf
    refine lv_aload_n hx hb dX11_worstKept_9 rfl (lv_at hl 0 rfl) ?_
    refine r_get (k := 47) (v := .ref (ea E 29)) C hP oM_0 rfl iX11 (by decide) wm_t1064 rfl rfl dX11_worstKept_10 ?_
    refine lv_iload_n hx hb dX11_worstKept_13 rfl (lv_at hl 1 rfl) ?_
    refine lv_aload_n hx hb dX11_worstKept_14 rfl (lv_at hl 0 rfl) ?_
    refine lv_iload_n hx hb dX11_worstKept_15 rfl (lv_at hl 1 rfl) ?_
    obtain ⟨r6, hc7, hf⟩ := cq_e hf
    refine r_cVi (n := 1) (As := [.int a0]) (rest := [.int a0, .ref (ea E 29)]) C (c_fX11_worstOf hj σ H.size a0 hc7) oM_0 rfl gv_RX11_359 (by decide +kernel) (rmD_le (by decide) (by decide)) rfl rfl (Nat.le_of_ble_eq_true rfl) dX11_worstKept_16 hP hS hl.1 (fun H locs hP hS => ?_)
    refine lv_sipush (v := 1000) hx hb dX11_worstKept_19 (by decide) ?_
    refine lv_iadd hx hb dX11_worstKept_22 ?_
    obtain ⟨h9, σ8, eσ8, hf⟩ := wrK_e hf
    refine r_ast C hP hS aM_29 h9 dX11_worstKept_23 (fun H locs hP hS => ?_)
    rw [← eσ8] at hP
    refine lv_aload_n hx hb dX11_worstKept_24 rfl (lv_at hl 0 rfl) ?_
    refine r_get (k := 47) (v := .ref (ea E 29)) C hP oM_0 rfl iX11 (by decide) wm_t1064 rfl rfl dX11_worstKept_25 ?_
    refine lv_iload_n hx hb dX11_worstKept_28 rfl (lv_at hl 1 rfl) ?_
    have h11 := (rdK_e hf).1
    refine r_ald C hP aM_29 h11 dX11_worstKept_29 ?_
    refine lv_topi (fun v10 ev10 => ?_)
    replace hf := rdK_n ev10 hf
    refine lv_sipush (v := 1000) hx hb dX11_worstKept_30 (by decide) ?_
    refine lv_isub hx hb dX11_worstKept_33 ?_
    cases hf
    exact r_iret C hP hS dX11_worstKept_34
def fX11_can (σ : St) (a0 : Int32) (a1 : Int32) (a2 : Int32) : Option (Int32 × St) :=
(nmS (st_put σ 0 0 0) fun σ1 =>
(if (fX11_heapAt a0 a1 a2) = (-1) then
some ((-1), σ1)
else
(rdK 256 (σ1 3) (fX11_heapAt a0 a1 a2) fun v3 =>
(if v3 = 0 then
some ((-1), σ1)
else
(if (σ1 0 48) = 60 then
some ((-1), σ1)
else
(wrK 60 σ1 30 (σ1 0 48) (fX11_heapAt a0 a1 a2) fun σ7 =>
(wrK 60 σ7 31 (σ7 0 48) (σ7 0 1) fun σ9 =>
(rdK 256 (σ9 3) (fX11_heapAt a0 a1 a2) fun v11 =>
(rdK 256 (σ9 4) (fX11_heapAt a0 a1 a2) fun v13 =>
(cq (fX11_wetOf v11 v13) fun r15 =>
(wrK 60 σ9 32 (σ9 0 48) r15 fun σ17 =>
(nmS (st_put σ17 0 48 ((σ17 0 48) + 1)) fun σ19 =>
some (((σ19 0 48) - 1), σ19)))))))))))))
set_option maxHeartbeats 4000000 in
theorem c_fX11_can {E : Ev} {l : Launch} (hj : jW false E) (σ : St) (sz : Nat) (a0 : Int32) (a1 : Int32) (a2 : Int32) {rr : Int32} {sr : St} (hf : fX11_can σ a0 a1 a2 = some (rr, sr)) : Met l yX11_can (Cond.code yX11_can cX11_can 5 (some .int) :: gT) (rmD 3) (va_Pc [.ref (ea E 0), .int a0, .int a1, .int a2] (preW false E σ sz)) (QI false E rr sr sz) 0 0 (aW false E sz) := by
  refine r_entry (QI false E rr sr) hj (by decide) [.ref (ea E 0), .int a0, .int a1, .int a2] (Nat.le_of_ble_eq_true rfl) (fun p e s m args below meth c C => ?_)
  intro H locs ls hP hS hl
  have hl : lv_has ls 5 [(0, .ref (ea E 0)), (1, .int a0), (2, .int a1), (3, .int a2)] := hl
  obtain ⟨hx, hb, hr, hml, hown, hts, hlocks, hK, hX, hj⟩ := id C
  unfold fX11_can at hf
  refine lv_aload_n hx hb dX11_can_0 rfl (lv_at hl 0 rfl) ?_
  refine lv_iconst (v := 0) hx hb dX11_can_1 (by decide) ?_
  refine r_put (k := 0) (x := 0) C hP hS tyX11 tyX11_ok nmX11 oM_0 rfl iX11 (by decide) wm_t1017 rfl rfl sM_0_0 rfl rfl (Nat.le_of_ble_eq_true rfl) dX11_can_2 (fun H locs hP hS => ?_)
  obtain ⟨σ1, eσ1, hf⟩ := nmS_e hf
  rw [← eσ1] at hP
  refine lv_aload_n hx hb dX11_can_5 rfl (lv_at hl 0 rfl) ?_
  refine lv_iload_n hx hb dX11_can_6 rfl (lv_at hl 1 rfl) ?_
  refine lv_iload_n hx hb dX11_can_7 rfl (lv_at hl 2 rfl) ?_
  refine lv_iload_n hx hb dX11_can_8 rfl (lv_at hl 3 rfl) ?_
  refine r_cVi (n := 3) (As := [.int a0, .int a1, .int a2]) (rest := []) C (c_fX11_heapAt hj σ1 H.size a0 a1 a2) oM_0 rfl gv_RX11_151 (by decide +kernel) (rmD_le (by decide) (by decide)) rfl rfl (Nat.le_of_ble_eq_true rfl) dX11_can_9 hP hS hl.1 (fun H locs hP hS => ?_)
  refine lv_istore (lv' := [(4, .int (fX11_heapAt a0 a1 a2)), (0, .ref (ea E 0)), (1, .int a0), (2, .int a1), (3, .int a2)]) hx hb dX11_can_12 hl (by decide) rfl (fun ls hl => ?_)
  refine lv_iload hx hb dX11_can_14 (lv_at hl 0 rfl) ?_
  refine lv_iconst (v := (-1)) hx hb dX11_can_16 (by decide) ?_
  refine lv_icmp_eq (tgt := 39) hx hb dX11_can_17 (by decide) (fun c2 => ?_) (fun c2 => ?_)
  · replace hf := it_t c2 hf
    refine lv_iconst (v := (-1)) hx hb dX11_can_39 (by decide) ?_
    cases hf
    exact r_iret C hP hS dX11_can_40
  · replace hf := it_f c2 hf
    refine lv_aload_n hx hb dX11_can_20 rfl (lv_at hl 1 rfl) ?_
    refine r_get (k := 5) (v := .ref (ea E 3)) C hP oM_0 rfl iX11 (by decide) wm_t1022 rfl rfl dX11_can_21 ?_
    refine lv_iload hx hb dX11_can_24 (lv_at hl 0 rfl) ?_
    have h4 := (rdK_e hf).1
    refine r_ald C hP aM_3 h4 dX11_can_26 ?_
    refine lv_topi (fun v3 ev3 => ?_)
    replace hf := rdK_n ev3 hf
    refine lv_if_eq (tgt := 39) hx hb dX11_can_27 (by decide) (fun c5 => ?_) (fun c5 => ?_)
    · replace hf := it_t c5 hf
      refine lv_iconst (v := (-1)) hx hb dX11_can_39 (by decide) ?_
      cases hf
      exact r_iret C hP hS dX11_can_40
    · replace hf := it_f c5 hf
      refine lv_aload_n hx hb dX11_can_30 rfl (lv_at hl 1 rfl) ?_
      refine r_get (k := 48) (v := .int (σ1 0 48)) C hP oM_0 rfl iX11 (by decide) wm_t1065 rfl rfl dX11_can_31 ?_
      refine lv_bipush (v := 60) hx hb dX11_can_34 (by decide) ?_
      refine lv_icmp_ne (tgt := 41) hx hb dX11_can_36 (by decide) (fun c6 => ?_) (fun c6 => ?_)
      · replace hf := it_f c6 hf
        refine lv_aload_n hx hb dX11_can_41 rfl (lv_at hl 1 rfl) ?_
        refine r_get (k := 49) (v := .ref (ea E 30)) C hP oM_0 rfl iX11 (by decide) wm_t1066 rfl rfl dX11_can_42 ?_
        refine lv_aload_n hx hb dX11_can_45 rfl (lv_at hl 1 rfl) ?_
        refine r_get (k := 48) (v := .int (σ1 0 48)) C hP oM_0 rfl iX11 (by decide) wm_t1065 rfl rfl dX11_can_46 ?_
        refine lv_iload hx hb dX11_can_49 (lv_at hl 0 rfl) ?_
        obtain ⟨h8, σ7, eσ7, hf⟩ := wrK_e hf
        refine r_ast C hP hS aM_30 h8 dX11_can_51 (fun H locs hP hS => ?_)
        rw [← eσ7] at hP
        refine lv_aload_n hx hb dX11_can_52 rfl (lv_at hl 1 rfl) ?_
        refine r_get (k := 50) (v := .ref (ea E 31)) C hP oM_0 rfl iX11 (by decide) wm_t1067 rfl rfl dX11_can_53 ?_
        refine lv_aload_n hx hb dX11_can_56 rfl (lv_at hl 1 rfl) ?_
        refine r_get (k := 48) (v := .int (σ7 0 48)) C hP oM_0 rfl iX11 (by decide) wm_t1065 rfl rfl dX11_can_57 ?_
        refine lv_aload_n hx hb dX11_can_60 rfl (lv_at hl 1 rfl) ?_
        refine r_get (k := 1) (v := .int (σ7 0 1)) C hP oM_0 rfl iX11 (by decide) wm_t1018 rfl rfl dX11_can_61 ?_
        obtain ⟨h10, σ9, eσ9, hf⟩ := wrK_e hf
        refine r_ast C hP hS aM_31 h10 dX11_can_64 (fun H locs hP hS => ?_)
        rw [← eσ9] at hP
        refine lv_aload_n hx hb dX11_can_65 rfl (lv_at hl 1 rfl) ?_
        refine r_get (k := 51) (v := .ref (ea E 32)) C hP oM_0 rfl iX11 (by decide) wm_t1068 rfl rfl dX11_can_66 ?_
        refine lv_aload_n hx hb dX11_can_69 rfl (lv_at hl 1 rfl) ?_
        refine r_get (k := 48) (v := .int (σ9 0 48)) C hP oM_0 rfl iX11 (by decide) wm_t1065 rfl rfl dX11_can_70 ?_
        refine lv_aload_n hx hb dX11_can_73 rfl (lv_at hl 1 rfl) ?_
        refine lv_aload_n hx hb dX11_can_74 rfl (lv_at hl 1 rfl) ?_
        refine r_get (k := 5) (v := .ref (ea E 3)) C hP oM_0 rfl iX11 (by decide) wm_t1022 rfl rfl dX11_can_75 ?_
        refine lv_iload hx hb dX11_can_78 (lv_at hl 0 rfl) ?_
        have h12 := (rdK_e hf).1
        refine r_ald C hP aM_3 h12 dX11_can_80 ?_
        refine lv_topi (fun v11 ev11 => ?_)
        replace hf := rdK_n ev11 hf
        refine lv_aload_n hx hb dX11_can_81 rfl (lv_at hl 1 rfl) ?_
        refine r_get (k := 6) (v := .ref (ea E 4)) C hP oM_0 rfl iX11 (by decide) wm_t1023 rfl rfl dX11_can_82 ?_
        refine lv_iload hx hb dX11_can_85 (lv_at hl 0 rfl) ?_
        have h14 := (rdK_e hf).1
        refine r_ald C hP aM_4 h14 dX11_can_87 ?_
        refine lv_topi (fun v13 ev13 => ?_)
        replace hf := rdK_n ev13 hf
        obtain ⟨r15, hc16, hf⟩ := cq_e hf
        refine r_cVi (n := 2) (As := [.int v11, .int v13]) (rest := [.int (σ9 0 48), .ref (ea E 32)]) C (c_fX11_wetOf hj σ9 H.size v11 v13 hc16) oM_0 rfl gv_RX11_158 (by decide +kernel) (rmD_le (by decide) (by decide)) rfl rfl (Nat.le_of_ble_eq_true rfl) dX11_can_88 hP hS hl.1 (fun H locs hP hS => ?_)
        obtain ⟨h18, σ17, eσ17, hf⟩ := wrK_e hf
        refine r_ast C hP hS aM_32 h18 dX11_can_91 (fun H locs hP hS => ?_)
        rw [← eσ17] at hP
        refine lv_aload_n hx hb dX11_can_92 rfl (lv_at hl 1 rfl) ?_
        refine lv_aload_n hx hb dX11_can_93 rfl (lv_at hl 1 rfl) ?_
        refine r_get (k := 48) (v := .int (σ17 0 48)) C hP oM_0 rfl iX11 (by decide) wm_t1065 rfl rfl dX11_can_94 ?_
        refine lv_iconst (v := 1) hx hb dX11_can_97 (by decide) ?_
        refine lv_iadd hx hb dX11_can_98 ?_
        refine r_put (k := 48) (x := ((σ17 0 48) + 1)) C hP hS tyX11 tyX11_ok nmX11 oM_0 rfl iX11 (by decide) wm_t1065 rfl rfl sM_0_48 rfl rfl (Nat.le_of_ble_eq_true rfl) dX11_can_99 (fun H locs hP hS => ?_)
        obtain ⟨σ19, eσ19, hf⟩ := nmS_e hf
        rw [← eσ19] at hP
        refine lv_aload_n hx hb dX11_can_102 rfl (lv_at hl 1 rfl) ?_
        refine r_get (k := 48) (v := .int (σ19 0 48)) C hP oM_0 rfl iX11 (by decide) wm_t1065 rfl rfl dX11_can_103 ?_
        refine lv_iconst (v := 1) hx hb dX11_can_106 (by decide) ?_
        refine lv_isub hx hb dX11_can_107 ?_
        cases hf
        exact r_iret C hP hS dX11_can_108
      · replace hf := it_t c6 hf
        refine lv_iconst (v := (-1)) hx hb dX11_can_39 (by decide) ?_
        cases hf
        exact r_iret C hP hS dX11_can_40
def fX11_step (σ : St) (a0 : Int32) : Option (Int32 × St) :=
(nmS (st_put σ 0 0 0) fun σ1 =>
(if (fX11_isIn a0 0 20) = 0 then
some (0, σ1)
else
(nmS (st_put σ1 0 52 a0) fun σ3 =>
some (1, σ3))))
set_option maxHeartbeats 4000000 in
theorem c_fX11_step {E : Ev} {l : Launch} (hj : jW false E) (σ : St) (sz : Nat) (a0 : Int32) {rr : Int32} {sr : St} (hf : fX11_step σ a0 = some (rr, sr)) : Met l yX11_step (Cond.code yX11_step cX11_step 2 (some .boolean) :: gT) (rmD 2) (va_Pc [.ref (ea E 0), .int a0] (preW false E σ sz)) (QI false E rr sr sz) 0 0 (aW false E sz) := by
  refine r_entry (QI false E rr sr) hj (by decide) [.ref (ea E 0), .int a0] (Nat.le_of_ble_eq_true rfl) (fun p e s m args below meth c C => ?_)
  intro H locs ls hP hS hl
  have hl : lv_has ls 2 [(0, .ref (ea E 0)), (1, .int a0)] := hl
  obtain ⟨hx, hb, hr, hml, hown, hts, hlocks, hK, hX, hj⟩ := id C
  unfold fX11_step at hf
  refine lv_aload_n hx hb dX11_step_0 rfl (lv_at hl 0 rfl) ?_
  refine lv_iconst (v := 0) hx hb dX11_step_1 (by decide) ?_
  refine r_put (k := 0) (x := 0) C hP hS tyX11 tyX11_ok nmX11 oM_0 rfl iX11 (by decide) wm_t1017 rfl rfl sM_0_0 rfl rfl (Nat.le_of_ble_eq_true rfl) dX11_step_2 (fun H locs hP hS => ?_)
  obtain ⟨σ1, eσ1, hf⟩ := nmS_e hf
  rw [← eσ1] at hP
  refine lv_aload_n hx hb dX11_step_5 rfl (lv_at hl 0 rfl) ?_
  refine lv_iload_n hx hb dX11_step_6 rfl (lv_at hl 1 rfl) ?_
  refine lv_iconst (v := 0) hx hb dX11_step_7 (by decide) ?_
  refine lv_bipush (v := 20) hx hb dX11_step_8 (by decide) ?_
  refine r_cVi (n := 3) (As := [.int a0, .int 0, .int 20]) (rest := []) C (c_fX11_isIn hj σ1 H.size a0 0 20) oM_0 rfl gv_RX11_144 (by decide +kernel) (rmD_le (by decide) (by decide)) rfl rfl (Nat.le_of_ble_eq_true rfl) dX11_step_10 hP hS hl.1 (fun H locs hP hS => ?_)
  refine lv_if_ne (tgt := 18) hx hb dX11_step_13 (by decide) (fun c2 => ?_) (fun c2 => ?_)
  · replace hf := it_f c2 hf
    refine lv_aload_n hx hb dX11_step_18 rfl (lv_at hl 0 rfl) ?_
    refine lv_iload_n hx hb dX11_step_19 rfl (lv_at hl 1 rfl) ?_
    refine r_put (k := 52) (x := a0) C hP hS tyX11 tyX11_ok nmX11 oM_0 rfl iX11 (by decide) wm_t1069 rfl rfl sM_0_52 rfl rfl (Nat.le_of_ble_eq_true rfl) dX11_step_20 (fun H locs hP hS => ?_)
    obtain ⟨σ3, eσ3, hf⟩ := nmS_e hf
    rw [← eσ3] at hP
    refine lv_iconst (v := 1) hx hb dX11_step_23 (by decide) ?_
    cases hf
    exact r_zret C rfl hP hS dX11_step_24
  · replace hf := it_t c2 hf
    refine lv_iconst (v := 0) hx hb dX11_step_16 (by decide) ?_
    cases hf
    exact r_zret C rfl hP hS dX11_step_17
def fX11_apart (a0 : Int32) (a1 : Int32) : Int32 :=
(if a1 ≤ a0 then
(a0 - a1)
else
(a1 - a0))
set_option maxHeartbeats 4000000 in
theorem c_fX11_apart {E : Ev} {l : Launch} (hj : jW false E) (σ : St) (sz : Nat) (a0 : Int32) (a1 : Int32) : Met l yX11_apart (Cond.code yX11_apart cX11_apart 3 (some .int) :: gT) (rmD 1) (va_Pc [.ref (ea E 0), .int a0, .int a1] (preW false E σ sz)) (QI false E (fX11_apart a0 a1) σ sz) 0 0 (aW false E sz) := by
  refine r_entry (QI false E (fX11_apart a0 a1) σ) hj (by decide) [.ref (ea E 0), .int a0, .int a1] (Nat.le_of_ble_eq_true rfl) (fun p e s m args below meth c C => ?_)
  intro H locs ls hP hS hl
  have hl : lv_has ls 3 [(0, .ref (ea E 0)), (1, .int a0), (2, .int a1)] := hl
  obtain ⟨hx, hb, hr, hml, hown, hts, hlocks, hK, hX, hj⟩ := id C
  generalize hf : fX11_apart a0 a1 = rr
  unfold fX11_apart at hf
  refine lv_iload_n hx hb dX11_apart_0 rfl (lv_at hl 1 rfl) ?_
  refine lv_iload_n hx hb dX11_apart_1 rfl (lv_at hl 2 rfl) ?_
  refine lv_icmp_ge (tgt := 11) hx hb dX11_apart_2 (by decide) (fun c1 => ?_) (fun c1 => ?_)
  · replace hf := it_t c1 hf
    refine lv_iload_n hx hb dX11_apart_11 rfl (lv_at hl 1 rfl) ?_
    refine lv_iload_n hx hb dX11_apart_12 rfl (lv_at hl 2 rfl) ?_
    refine lv_isub hx hb dX11_apart_13 ?_
    subst hf
    exact r_iret C hP hS dX11_apart_14
  · replace hf := it_f c1 hf
    refine lv_iload_n hx hb dX11_apart_5 rfl (lv_at hl 2 rfl) ?_
    refine lv_iload_n hx hb dX11_apart_6 rfl (lv_at hl 1 rfl) ?_
    refine lv_isub hx hb dX11_apart_7 ?_
    refine lv_goto (tgt := 14) hx hb dX11_apart_8 (by decide) ?_
    subst hf
    exact r_iret C hP hS dX11_apart_14
def fX11_distance (a0 : Int32) (a1 : Int32) : Int32 :=
(((fX11_apart (a0 - a0 / 8 * 8) (a1 - a1 / 8 * 8)) + (fX11_apart ((a0 / 8) - (a0 / 8) / 8 * 8) ((a1 / 8) - (a1 / 8) / 8 * 8))) + (fX11_apart (a0 / 64) (a1 / 64)))
set_option maxHeartbeats 4000000 in
theorem c_fX11_distance {E : Ev} {l : Launch} (hj : jW false E) (σ : St) (sz : Nat) (a0 : Int32) (a1 : Int32) : Met l yX11_distance (Cond.code yX11_distance cX11_distance 3 (some .int) :: gT) (rmD 2) (va_Pc [.ref (ea E 0), .int a0, .int a1] (preW false E σ sz)) (QI false E (fX11_distance a0 a1) σ sz) 0 0 (aW false E sz) := by
  refine r_entry (QI false E (fX11_distance a0 a1) σ) hj (by decide) [.ref (ea E 0), .int a0, .int a1] (Nat.le_of_ble_eq_true rfl) (fun p e s m args below meth c C => ?_)
  intro H locs ls hP hS hl
  have hl : lv_has ls 3 [(0, .ref (ea E 0)), (1, .int a0), (2, .int a1)] := hl
  obtain ⟨hx, hb, hr, hml, hown, hts, hlocks, hK, hX, hj⟩ := id C
  generalize hf : fX11_distance a0 a1 = rr
  unfold fX11_distance at hf
  refine lv_aload_n hx hb dX11_distance_0 rfl (lv_at hl 0 rfl) ?_
  refine lv_iload_n hx hb dX11_distance_1 rfl (lv_at hl 1 rfl) ?_
  refine lv_bipush (v := 8) hx hb dX11_distance_2 (by decide) ?_
  refine lv_irem hx hb dX11_distance_4 (by decide) ?_
  refine lv_iload_n hx hb dX11_distance_5 rfl (lv_at hl 2 rfl) ?_
  refine lv_bipush (v := 8) hx hb dX11_distance_6 (by decide) ?_
  refine lv_irem hx hb dX11_distance_8 (by decide) ?_
  refine r_cVi (n := 2) (As := [.int (a0 - a0 / 8 * 8), .int (a1 - a1 / 8 * 8)]) (rest := []) C (c_fX11_apart hj σ H.size (a0 - a0 / 8 * 8) (a1 - a1 / 8 * 8)) oM_0 rfl gv_RX11_365 (by decide +kernel) (rmD_le (by decide) (by decide)) rfl rfl (Nat.le_of_ble_eq_true rfl) dX11_distance_9 hP hS hl.1 (fun H locs hP hS => ?_)
  refine lv_aload_n hx hb dX11_distance_12 rfl (lv_at hl 0 rfl) ?_
  refine lv_iload_n hx hb dX11_distance_13 rfl (lv_at hl 1 rfl) ?_
  refine lv_bipush (v := 8) hx hb dX11_distance_14 (by decide) ?_
  refine lv_idiv hx hb dX11_distance_16 (by decide) ?_
  refine lv_bipush (v := 8) hx hb dX11_distance_17 (by decide) ?_
  refine lv_irem hx hb dX11_distance_19 (by decide) ?_
  refine lv_iload_n hx hb dX11_distance_20 rfl (lv_at hl 2 rfl) ?_
  refine lv_bipush (v := 8) hx hb dX11_distance_21 (by decide) ?_
  refine lv_idiv hx hb dX11_distance_23 (by decide) ?_
  refine lv_bipush (v := 8) hx hb dX11_distance_24 (by decide) ?_
  refine lv_irem hx hb dX11_distance_26 (by decide) ?_
  refine r_cVi (n := 2) (As := [.int ((a0 / 8) - (a0 / 8) / 8 * 8), .int ((a1 / 8) - (a1 / 8) / 8 * 8)]) (rest := [.int (fX11_apart (a0 - a0 / 8 * 8) (a1 - a1 / 8 * 8))]) C (c_fX11_apart hj σ H.size ((a0 / 8) - (a0 / 8) / 8 * 8) ((a1 / 8) - (a1 / 8) / 8 * 8)) oM_0 rfl gv_RX11_365 (by decide +kernel) (rmD_le (by decide) (by decide)) rfl rfl (Nat.le_of_ble_eq_true rfl) dX11_distance_27 hP hS hl.1 (fun H locs hP hS => ?_)
  refine lv_iadd hx hb dX11_distance_30 ?_
  refine lv_aload_n hx hb dX11_distance_31 rfl (lv_at hl 0 rfl) ?_
  refine lv_iload_n hx hb dX11_distance_32 rfl (lv_at hl 1 rfl) ?_
  refine lv_bipush (v := 64) hx hb dX11_distance_33 (by decide) ?_
  refine lv_idiv hx hb dX11_distance_35 (by decide) ?_
  refine lv_iload_n hx hb dX11_distance_36 rfl (lv_at hl 2 rfl) ?_
  refine lv_bipush (v := 64) hx hb dX11_distance_37 (by decide) ?_
  refine lv_idiv hx hb dX11_distance_39 (by decide) ?_
  refine r_cVi (n := 2) (As := [.int (a0 / 64), .int (a1 / 64)]) (rest := [.int ((fX11_apart (a0 - a0 / 8 * 8) (a1 - a1 / 8 * 8)) + (fX11_apart ((a0 / 8) - (a0 / 8) / 8 * 8) ((a1 / 8) - (a1 / 8) / 8 * 8)))]) C (c_fX11_apart hj σ H.size (a0 / 64) (a1 / 64)) oM_0 rfl gv_RX11_365 (by decide +kernel) (rmD_le (by decide) (by decide)) rfl rfl (Nat.le_of_ble_eq_true rfl) dX11_distance_40 hP hS hl.1 (fun H locs hP hS => ?_)
  refine lv_iadd hx hb dX11_distance_43 ?_
  subst hf
  exact r_iret C hP hS dX11_distance_44
def fX11_endOf_88 (σ : St) (rec15 : Int32 → Int32 → Int32 → Int32 → Int32 → Option Int32) (x1 : Int32) (x2 : Int32) (x3 : Int32) (x4 : Int32) (x5 : Int32) (x6 : Int32) : Option Int32 :=
(if x3 = 0 then
(rdK 60 (σ 32) x5 fun v2 =>
(if x4 ≤ (v2 + x6) then
rec15 x1 x2 x3 x4 (x5 + 1)
else
(rdK 60 (σ 32) x5 fun v5 =>
rec15 x1 x2 x3 (v5 + x6) (x5 + 1))))
else
rec15 x1 x2 x3 x4 (x5 + 1))
set_option maxHeartbeats 4000000 in
theorem b_fX11_endOf_88 {E : Ev} {l : Launch} {p : Program} {e : Env} {s : State} {m : MethodId} {args : Array Value} {below : List Frame} {meth : Method} {c : Code} (σ : St) (C : CX false E RX11 cX11_endOf 7 (some .int) p s m args meth c) {rr : Int32} (rec15 : Int32 → Int32 → Int32 → Int32 → Int32 → Option Int32) (hr15 : ∀  (x1 : Int32) (x2 : Int32) (x3 : Int32) (x4 : Int32) (x5 : Int32), rec15 x1 x2 x3 x4 x5 = some rr → GW false l (rmD 3) E 7 p e s m args below meth c (MQ below (QI false E rr σ s.heap.size) args s 0 0 (aW false E s.heap.size)) σ 15 [(0, .ref (ea E 0)), (1, .int x1), (2, .int x2), (3, .int x3), (4, .int x4), (5, .int x5)] []) : ∀  (x1 : Int32) (x2 : Int32) (x3 : Int32) (x4 : Int32) (x5 : Int32) (x6 : Int32), fX11_endOf_88 σ rec15 x1 x2 x3 x4 x5 x6 = some rr → GW false l (rmD 3) E 7 p e s m args below meth c (MQ below (QI false E rr σ s.heap.size) args s 0 0 (aW false E s.heap.size)) σ 88 [(0, .ref (ea E 0)), (1, .int x1), (2, .int x2), (3, .int x3), (4, .int x4), (5, .int x5), (6, .int x6)] [] := by
  intro x1 x2 x3 x4 x5 x6 hf H locs ls hP hS hl
  obtain ⟨hx, hb, hr, hml, hown, hts, hlocks, hK, hX, hj⟩ := id C
  unfold fX11_endOf_88 at hf
  refine lv_iload_n hx hb dX11_endOf_88 rfl (lv_at hl 3 rfl) ?_
  refine lv_if_ne (tgt := 119) hx hb dX11_endOf_89 (by decide) (fun c1 => ?_) (fun c1 => ?_)
  · replace hf := it_f c1 hf
    refine lv_iinc (v := (x5 + 1)) (lv' := [(5, .int (x5 + 1)), (0, .ref (ea E 0)), (1, .int x1), (2, .int x2), (3, .int x3), (4, .int x4), (6, .int x6)]) hx hb dX11_endOf_119 hl (k := 5) rfl rfl (by decide) rfl (fun ls hl => ?_)
    refine lv_goto (tgt := 15) hx hb dX11_endOf_122 (by decide) ?_
    exact hr15 x1 x2 x3 x4 (x5 + 1) hf H locs ls hP hS (lv_sub hl [1, 2, 3, 4, 5, 0] rfl)
  · replace hf := it_t c1 hf
    refine lv_aload_n hx hb dX11_endOf_92 rfl (lv_at hl 0 rfl) ?_
    refine r_get (k := 51) (v := .ref (ea E 32)) C hP oM_0 rfl iX11 (by decide) wm_t1068 rfl rfl dX11_endOf_93 ?_
    refine lv_iload hx hb dX11_endOf_96 (lv_at hl 5 rfl) ?_
    have h3 := (rdK_e hf).1
    refine r_ald C hP aM_32 h3 dX11_endOf_98 ?_
    refine lv_topi (fun v2 ev2 => ?_)
    replace hf := rdK_n ev2 hf
    refine lv_iload hx hb dX11_endOf_99 (lv_at hl 6 rfl) ?_
    refine lv_iadd hx hb dX11_endOf_101 ?_
    refine lv_iload hx hb dX11_endOf_102 (lv_at hl 4 rfl) ?_
    refine lv_icmp_ge (tgt := 119) hx hb dX11_endOf_104 (by decide) (fun c4 => ?_) (fun c4 => ?_)
    · replace hf := it_t c4 hf
      refine lv_iinc (v := (x5 + 1)) (lv' := [(5, .int (x5 + 1)), (0, .ref (ea E 0)), (1, .int x1), (2, .int x2), (3, .int x3), (4, .int x4), (6, .int x6)]) hx hb dX11_endOf_119 hl (k := 5) rfl rfl (by decide) rfl (fun ls hl => ?_)
      refine lv_goto (tgt := 15) hx hb dX11_endOf_122 (by decide) ?_
      exact hr15 x1 x2 x3 x4 (x5 + 1) hf H locs ls hP hS (lv_sub hl [1, 2, 3, 4, 5, 0] rfl)
    · replace hf := it_f c4 hf
      refine lv_aload_n hx hb dX11_endOf_107 rfl (lv_at hl 0 rfl) ?_
      refine r_get (k := 51) (v := .ref (ea E 32)) C hP oM_0 rfl iX11 (by decide) wm_t1068 rfl rfl dX11_endOf_108 ?_
      refine lv_iload hx hb dX11_endOf_111 (lv_at hl 5 rfl) ?_
      have h6 := (rdK_e hf).1
      refine r_ald C hP aM_32 h6 dX11_endOf_113 ?_
      refine lv_topi (fun v5 ev5 => ?_)
      replace hf := rdK_n ev5 hf
      refine lv_iload hx hb dX11_endOf_114 (lv_at hl 6 rfl) ?_
      refine lv_iadd hx hb dX11_endOf_116 ?_
      refine lv_istore (lv' := [(4, .int (v5 + x6)), (0, .ref (ea E 0)), (1, .int x1), (2, .int x2), (3, .int x3), (5, .int x5), (6, .int x6)]) hx hb dX11_endOf_117 hl (by decide) rfl (fun ls hl => ?_)
      refine lv_iinc (v := (x5 + 1)) (lv' := [(5, .int (x5 + 1)), (4, .int (v5 + x6)), (0, .ref (ea E 0)), (1, .int x1), (2, .int x2), (3, .int x3), (6, .int x6)]) hx hb dX11_endOf_119 hl (k := 5) rfl rfl (by decide) rfl (fun ls hl => ?_)
      refine lv_goto (tgt := 15) hx hb dX11_endOf_122 (by decide) ?_
      exact hr15 x1 x2 x3 (v5 + x6) (x5 + 1) hf H locs ls hP hS (lv_sub hl [2, 3, 4, 5, 1, 0] rfl)
def fX11_endOf_15B (σ : St) (rec15 : Int32 → Int32 → Int32 → Int32 → Int32 → Option Int32) (x1 : Int32) (x2 : Int32) (x3 : Int32) (x4 : Int32) (x5 : Int32) : Option Int32 :=
(if (σ 0 48) ≤ x5 then
some (fX11_cut x4 99)
else
(rdK 60 (σ 31) x5 fun v2 =>
(if v2 ≤ x2 then
(rdK 60 (σ 30) x5 fun v5 =>
(if x3 = 0 then
fX11_endOf_88 σ rec15 x1 x2 x3 x4 x5 ((σ 0 52) * (fX11_distance x1 v5))
else
(rdK 60 (σ 32) x5 fun v8 =>
(if (v8 - ((σ 0 52) * (fX11_distance x1 v5))) ≤ x4 then
fX11_endOf_88 σ rec15 x1 x2 x3 x4 x5 ((σ 0 52) * (fX11_distance x1 v5))
else
(rdK 60 (σ 32) x5 fun v11 =>
fX11_endOf_88 σ rec15 x1 x2 x3 (v11 - ((σ 0 52) * (fX11_distance x1 v5))) x5 ((σ 0 52) * (fX11_distance x1 v5)))))))
else
rec15 x1 x2 x3 x4 (x5 + 1))))
set_option maxHeartbeats 4000000 in
theorem b_fX11_endOf_15B {E : Ev} {l : Launch} {p : Program} {e : Env} {s : State} {m : MethodId} {args : Array Value} {below : List Frame} {meth : Method} {c : Code} (σ : St) (C : CX false E RX11 cX11_endOf 7 (some .int) p s m args meth c) {rr : Int32} (rec15 : Int32 → Int32 → Int32 → Int32 → Int32 → Option Int32) (hr15 : ∀  (x1 : Int32) (x2 : Int32) (x3 : Int32) (x4 : Int32) (x5 : Int32), rec15 x1 x2 x3 x4 x5 = some rr → GW false l (rmD 3) E 7 p e s m args below meth c (MQ below (QI false E rr σ s.heap.size) args s 0 0 (aW false E s.heap.size)) σ 15 [(0, .ref (ea E 0)), (1, .int x1), (2, .int x2), (3, .int x3), (4, .int x4), (5, .int x5)] []) : ∀  (x1 : Int32) (x2 : Int32) (x3 : Int32) (x4 : Int32) (x5 : Int32), fX11_endOf_15B σ rec15 x1 x2 x3 x4 x5 = some rr → GW false l (rmD 3) E 7 p e s m args below meth c (MQ below (QI false E rr σ s.heap.size) args s 0 0 (aW false E s.heap.size)) σ 15 [(0, .ref (ea E 0)), (1, .int x1), (2, .int x2), (3, .int x3), (4, .int x4), (5, .int x5)] [] := by
  intro x1 x2 x3 x4 x5 hf H locs ls hP hS hl
  obtain ⟨hx, hb, hr, hml, hown, hts, hlocks, hK, hX, hj⟩ := id C
  unfold fX11_endOf_15B at hf
  refine lv_iload hx hb dX11_endOf_15 (lv_at hl 5 rfl) ?_
  refine lv_aload_n hx hb dX11_endOf_17 rfl (lv_at hl 0 rfl) ?_
  refine r_get (k := 48) (v := .int (σ 0 48)) C hP oM_0 rfl iX11 (by decide) wm_t1065 rfl rfl dX11_endOf_18 ?_
  refine lv_icmp_ge (tgt := 125) hx hb dX11_endOf_21 (by decide) (fun c1 => ?_) (fun c1 => ?_)
  · replace hf := it_t c1 hf
    refine lv_aload_n hx hb dX11_endOf_125 rfl (lv_at hl 0 rfl) ?_
    refine lv_iload hx hb dX11_endOf_126 (lv_at hl 4 rfl) ?_
    refine lv_bipush (v := 99) hx hb dX11_endOf_128 (by decide) ?_
    refine r_cVi (n := 2) (As := [.int x4, .int 99]) (rest := []) C (c_fX11_cut hj σ H.size x4 99) oM_0 rfl gv_RX11_309 (by decide +kernel) (rmD_le (by decide) (by decide)) rfl rfl (Nat.le_of_ble_eq_true rfl) dX11_endOf_130 hP hS hl.1 (fun H locs hP hS => ?_)
    cases hf
    exact r_iret C hP hS dX11_endOf_133
  · replace hf := it_f c1 hf
    refine lv_aload_n hx hb dX11_endOf_24 rfl (lv_at hl 0 rfl) ?_
    refine r_get (k := 50) (v := .ref (ea E 31)) C hP oM_0 rfl iX11 (by decide) wm_t1067 rfl rfl dX11_endOf_25 ?_
    refine lv_iload hx hb dX11_endOf_28 (lv_at hl 5 rfl) ?_
    have h3 := (rdK_e hf).1
    refine r_ald C hP aM_31 h3 dX11_endOf_30 ?_
    refine lv_topi (fun v2 ev2 => ?_)
    replace hf := rdK_n ev2 hf
    refine lv_iload_n hx hb dX11_endOf_31 rfl (lv_at hl 2 rfl) ?_
    refine lv_icmp_le (tgt := 38) hx hb dX11_endOf_32 (by decide) (fun c4 => ?_) (fun c4 => ?_)
    · replace hf := it_t c4 hf
      refine lv_aload_n hx hb dX11_endOf_38 rfl (lv_at hl 0 rfl) ?_
      refine r_get (k := 52) (v := .int (σ 0 52)) C hP oM_0 rfl iX11 (by decide) wm_t1069 rfl rfl dX11_endOf_39 ?_
      refine lv_aload_n hx hb dX11_endOf_42 rfl (lv_at hl 0 rfl) ?_
      refine lv_iload_n hx hb dX11_endOf_43 rfl (lv_at hl 1 rfl) ?_
      refine lv_aload_n hx hb dX11_endOf_44 rfl (lv_at hl 0 rfl) ?_
      refine r_get (k := 49) (v := .ref (ea E 30)) C hP oM_0 rfl iX11 (by decide) wm_t1066 rfl rfl dX11_endOf_45 ?_
      refine lv_iload hx hb dX11_endOf_48 (lv_at hl 5 rfl) ?_
      have h6 := (rdK_e hf).1
      refine r_ald C hP aM_30 h6 dX11_endOf_50 ?_
      refine lv_topi (fun v5 ev5 => ?_)
      replace hf := rdK_n ev5 hf
      refine r_cVi (n := 2) (As := [.int x1, .int v5]) (rest := [.int (σ 0 52)]) C (c_fX11_distance hj σ H.size x1 v5) oM_0 rfl gv_RX11_368 (by decide +kernel) (rmD_le (by decide) (by decide)) rfl rfl (Nat.le_of_ble_eq_true rfl) dX11_endOf_51 hP hS hl.1 (fun H locs hP hS => ?_)
      refine lv_imul hx hb dX11_endOf_54 ?_
      refine lv_istore (lv' := [(6, .int ((σ 0 52) * (fX11_distance x1 v5))), (0, .ref (ea E 0)), (1, .int x1), (2, .int x2), (3, .int x3), (4, .int x4), (5, .int x5)]) hx hb dX11_endOf_55 hl (by decide) rfl (fun ls hl => ?_)
      refine lv_iload_n hx hb dX11_endOf_57 rfl (lv_at hl 4 rfl) ?_
      refine lv_if_eq (tgt := 88) hx hb dX11_endOf_58 (by decide) (fun c7 => ?_) (fun c7 => ?_)
      · replace hf := it_t c7 hf
        exact b_fX11_endOf_88 σ C rec15 hr15 x1 x2 x3 x4 x5 ((σ 0 52) * (fX11_distance x1 v5)) hf H locs ls hP hS (lv_sub hl [1, 2, 3, 4, 5, 6, 0] rfl)
      · replace hf := it_f c7 hf
        refine lv_aload_n hx hb dX11_endOf_61 rfl (lv_at hl 1 rfl) ?_
        refine r_get (k := 51) (v := .ref (ea E 32)) C hP oM_0 rfl iX11 (by decide) wm_t1068 rfl rfl dX11_endOf_62 ?_
        refine lv_iload hx hb dX11_endOf_65 (lv_at hl 6 rfl) ?_
        have h9 := (rdK_e hf).1
        refine r_ald C hP aM_32 h9 dX11_endOf_67 ?_
        refine lv_topi (fun v8 ev8 => ?_)
        replace hf := rdK_n ev8 hf
        refine lv_iload hx hb dX11_endOf_68 (lv_at hl 0 rfl) ?_
        refine lv_isub hx hb dX11_endOf_70 ?_
        refine lv_iload hx hb dX11_endOf_71 (lv_at hl 5 rfl) ?_
        refine lv_icmp_le (tgt := 88) hx hb dX11_endOf_73 (by decide) (fun c10 => ?_) (fun c10 => ?_)
        · replace hf := it_t c10 hf
          exact b_fX11_endOf_88 σ C rec15 hr15 x1 x2 x3 x4 x5 ((σ 0 52) * (fX11_distance x1 v5)) hf H locs ls hP hS (lv_sub hl [1, 2, 3, 4, 5, 6, 0] rfl)
        · replace hf := it_f c10 hf
          refine lv_aload_n hx hb dX11_endOf_76 rfl (lv_at hl 1 rfl) ?_
          refine r_get (k := 51) (v := .ref (ea E 32)) C hP oM_0 rfl iX11 (by decide) wm_t1068 rfl rfl dX11_endOf_77 ?_
          refine lv_iload hx hb dX11_endOf_80 (lv_at hl 6 rfl) ?_
          have h12 := (rdK_e hf).1
          refine r_ald C hP aM_32 h12 dX11_endOf_82 ?_
          refine lv_topi (fun v11 ev11 => ?_)
          replace hf := rdK_n ev11 hf
          refine lv_iload hx hb dX11_endOf_83 (lv_at hl 0 rfl) ?_
          refine lv_isub hx hb dX11_endOf_85 ?_
          refine lv_istore (lv' := [(4, .int (v11 - ((σ 0 52) * (fX11_distance x1 v5)))), (6, .int ((σ 0 52) * (fX11_distance x1 v5))), (0, .ref (ea E 0)), (1, .int x1), (2, .int x2), (3, .int x3), (5, .int x5)]) hx hb dX11_endOf_86 hl (by decide) rfl (fun ls hl => ?_)
          exact b_fX11_endOf_88 σ C rec15 hr15 x1 x2 x3 (v11 - ((σ 0 52) * (fX11_distance x1 v5))) x5 ((σ 0 52) * (fX11_distance x1 v5)) hf H locs ls hP hS (lv_sub hl [2, 3, 4, 5, 0, 6, 1] rfl)
    · replace hf := it_f c4 hf
      refine lv_goto (tgt := 119) hx hb dX11_endOf_35 (by decide) ?_
      refine lv_iinc (v := (x5 + 1)) (lv' := [(5, .int (x5 + 1)), (0, .ref (ea E 0)), (1, .int x1), (2, .int x2), (3, .int x3), (4, .int x4)]) hx hb dX11_endOf_119 hl (k := 5) rfl rfl (by decide) rfl (fun ls hl => ?_)
      refine lv_goto (tgt := 15) hx hb dX11_endOf_122 (by decide) ?_
      exact hr15 x1 x2 x3 x4 (x5 + 1) hf H locs ls hP hS (lv_sub hl [1, 2, 3, 4, 5, 0] rfl)
def fX11_endOf_15 (σ : St) : Nat → Int32 → Int32 → Int32 → Int32 → Int32 → Option Int32
  | 0 => fun _ _ _ _ _ => none
  | n + 1 => fun x1 x2 x3 x4 x5 => fX11_endOf_15B σ (fX11_endOf_15 σ n) x1 x2 x3 x4 x5
theorem b_fX11_endOf_15 {E : Ev} {l : Launch} {p : Program} {e : Env} {s : State} {m : MethodId} {args : Array Value} {below : List Frame} {meth : Method} {c : Code} (σ : St) (C : CX false E RX11 cX11_endOf 7 (some .int) p s m args meth c) {rr : Int32} : ∀ (n : Nat) (x1 : Int32) (x2 : Int32) (x3 : Int32) (x4 : Int32) (x5 : Int32), fX11_endOf_15 σ n x1 x2 x3 x4 x5 = some rr → GW false l (rmD 3) E 7 p e s m args below meth c (MQ below (QI false E rr σ s.heap.size) args s 0 0 (aW false E s.heap.size)) σ 15 [(0, .ref (ea E 0)), (1, .int x1), (2, .int x2), (3, .int x3), (4, .int x4), (5, .int x5)] [] := by
  intro n
  induction n with
  | zero => intro x1 x2 x3 x4 x5 hf; have hf : (none : Option _) = some _ := hf; cases hf
  | succ n ih => intro x1 x2 x3 x4 x5 hf; exact b_fX11_endOf_15B σ C (fX11_endOf_15 σ n) ih x1 x2 x3 x4 x5 hf
def fX11_endOf (σ : St) (a0 : Int32) (a1 : Int32) (a2 : Int32) : Option Int32 :=
(if a2 = 0 then
fX11_endOf_15 σ FU a0 a1 a2 99 0
else
fX11_endOf_15 σ FU a0 a1 a2 0 0)
set_option maxHeartbeats 4000000 in
theorem c_fX11_endOf {E : Ev} {l : Launch} (hj : jW false E) (σ : St) (sz : Nat) (a0 : Int32) (a1 : Int32) (a2 : Int32) {rr : Int32} (hf : fX11_endOf σ a0 a1 a2 = some rr) : Met l yX11_endOf (Cond.code yX11_endOf cX11_endOf 7 (some .int) :: gT) (rmD 3) (va_Pc [.ref (ea E 0), .int a0, .int a1, .int a2] (preW false E σ sz)) (QI false E rr σ sz) 0 0 (aW false E sz) := by
  refine r_entry (QI false E rr σ) hj (by decide) [.ref (ea E 0), .int a0, .int a1, .int a2] (Nat.le_of_ble_eq_true rfl) (fun p e s m args below meth c C => ?_)
  intro H locs ls hP hS hl
  have hl : lv_has ls 7 [(0, .ref (ea E 0)), (1, .int a0), (2, .int a1), (3, .int a2)] := hl
  obtain ⟨hx, hb, hr, hml, hown, hts, hlocks, hK, hX, hj⟩ := id C
  unfold fX11_endOf at hf
  refine lv_iload_n hx hb dX11_endOf_0 rfl (lv_at hl 3 rfl) ?_
  refine lv_if_eq (tgt := 8) hx hb dX11_endOf_1 (by decide) (fun c1 => ?_) (fun c1 => ?_)
  · replace hf := it_t c1 hf
    refine lv_bipush (v := 99) hx hb dX11_endOf_8 (by decide) ?_
    refine lv_istore (lv' := [(4, .int 99), (0, .ref (ea E 0)), (1, .int a0), (2, .int a1), (3, .int a2)]) hx hb dX11_endOf_10 hl (by decide) rfl (fun ls hl => ?_)
    refine lv_iconst (v := 0) hx hb dX11_endOf_12 (by decide) ?_
    refine lv_istore (lv' := [(5, .int 0), (4, .int 99), (0, .ref (ea E 0)), (1, .int a0), (2, .int a1), (3, .int a2)]) hx hb dX11_endOf_13 hl (by decide) rfl (fun ls hl => ?_)
    exact b_fX11_endOf_15 σ C FU a0 a1 a2 99 0 hf H locs ls hP hS (lv_sub hl [2, 3, 4, 5, 1, 0] rfl)
  · replace hf := it_f c1 hf
    refine lv_iconst (v := 0) hx hb dX11_endOf_4 (by decide) ?_
    refine lv_goto (tgt := 10) hx hb dX11_endOf_5 (by decide) ?_
    refine lv_istore (lv' := [(4, .int 0), (0, .ref (ea E 0)), (1, .int a0), (2, .int a1), (3, .int a2)]) hx hb dX11_endOf_10 hl (by decide) rfl (fun ls hl => ?_)
    refine lv_iconst (v := 0) hx hb dX11_endOf_12 (by decide) ?_
    refine lv_istore (lv' := [(5, .int 0), (4, .int 0), (0, .ref (ea E 0)), (1, .int a0), (2, .int a1), (3, .int a2)]) hx hb dX11_endOf_13 hl (by decide) rfl (fun ls hl => ?_)
    exact b_fX11_endOf_15 σ C FU a0 a1 a2 0 0 hf H locs ls hP hS (lv_sub hl [2, 3, 4, 5, 1, 0] rfl)
def fX11_isHour (a0 : Int32) : Int32 :=
(fX11_isIn a0 0 719)
set_option maxHeartbeats 4000000 in
theorem c_fX11_isHour {E : Ev} {l : Launch} (hj : jW false E) (σ : St) (sz : Nat) (a0 : Int32) : Met l yX11_isHour (Cond.code yX11_isHour cX11_isHour 2 (some .boolean) :: gT) (rmD 2) (va_Pc [.ref (ea E 0), .int a0] (preW false E σ sz)) (QI false E (fX11_isHour a0) σ sz) 0 0 (aW false E sz) := by
  refine r_entry (QI false E (fX11_isHour a0) σ) hj (by decide) [.ref (ea E 0), .int a0] (Nat.le_of_ble_eq_true rfl) (fun p e s m args below meth c C => ?_)
  intro H locs ls hP hS hl
  have hl : lv_has ls 2 [(0, .ref (ea E 0)), (1, .int a0)] := hl
  obtain ⟨hx, hb, hr, hml, hown, hts, hlocks, hK, hX, hj⟩ := id C
  generalize hf : fX11_isHour a0 = rr
  unfold fX11_isHour at hf
  refine lv_aload_n hx hb dX11_isHour_0 rfl (lv_at hl 0 rfl) ?_
  refine lv_iload_n hx hb dX11_isHour_1 rfl (lv_at hl 1 rfl) ?_
  refine lv_iconst (v := 0) hx hb dX11_isHour_2 (by decide) ?_
  refine lv_sipush (v := 719) hx hb dX11_isHour_3 (by decide) ?_
  refine r_cVi (n := 3) (As := [.int a0, .int 0, .int 719]) (rest := []) C (c_fX11_isIn hj σ H.size a0 0 719) oM_0 rfl gv_RX11_144 (by decide +kernel) (rmD_le (by decide) (by decide)) rfl rfl (Nat.le_of_ble_eq_true rfl) dX11_isHour_6 hP hS hl.1 (fun H locs hP hS => ?_)
  subst hf
  exact r_zret C (zb_nar (z_fX11_isIn a0 0 719)) hP hS dX11_isHour_9
theorem z_fX11_isHour (a0 : Int32) : fX11_isHour a0 = 0 ∨ fX11_isHour a0 = 1 := by
  unfold fX11_isHour
  repeat' split
  all_goals first | exact Or.inl rfl | exact Or.inr rfl | exact z_fX11_isIn _ _ _
def fX11_span_59 (σ : St) (y0 : Int32) (y1 : Int32) (y2 : Int32) : Option (Int32 × St) :=
(cq (fX11_endOf σ y2 y1 y0) fun r1 =>
some (r1, σ))
set_option maxHeartbeats 4000000 in
theorem b_fX11_span_59 {E : Ev} {l : Launch} {p : Program} {e : Env} {s : State} {m : MethodId} {args : Array Value} {below : List Frame} {meth : Method} {c : Code} (C : CX false E RX11 cX11_span 7 (some .int) p s m args meth c) {rr : Int32} {sr : St} : ∀ (σ : St) (y0 : Int32) (y1 : Int32) (y2 : Int32), fX11_span_59 σ y0 y1 y2 = some (rr, sr) → GW false l (rmD 4) E 7 p e s m args below meth c (MQ below (QI false E rr sr s.heap.size) args s 0 0 (aW false E s.heap.size)) σ 59 [] [.int y0, .int y1, .int y2, .ref (ea E 0)] := by
  intro σ y0 y1 y2 hf H locs ls hP hS hl
  obtain ⟨hx, hb, hr, hml, hown, hts, hlocks, hK, hX, hj⟩ := id C
  unfold fX11_span_59 at hf
  obtain ⟨r1, hc2, hf⟩ := cq_e hf
  refine r_cVi (n := 3) (As := [.int y2, .int y1, .int y0]) (rest := []) C (c_fX11_endOf hj σ H.size y2 y1 y0 hc2) oM_0 rfl gv_RX11_374 (by decide +kernel) (rmD_le (by decide) (by decide)) rfl rfl (Nat.le_of_ble_eq_true rfl) dX11_span_59 hP hS hl.1 (fun H locs hP hS => ?_)
  cases hf
  exact r_iret C hP hS dX11_span_62
def fX11_span (σ : St) (a0 : Int32) (a1 : Int32) (a2 : Int32) (a3 : Int32) (a4 : Int32) : Option (Int32 × St) :=
(nmS (st_put σ 0 0 0) fun σ1 =>
(if (fX11_heapAt a0 a1 a2) = (-1) then
some ((-1), σ1)
else
(if (fX11_isHour a3) = 0 then
some ((-1), σ1)
else
(if (fX11_isIn a4 0 1) = 0 then
some ((-1), σ1)
else
(if a4 = 0 then
fX11_span_59 σ1 1 a3 (fX11_heapAt a0 a1 a2)
else
fX11_span_59 σ1 0 a3 (fX11_heapAt a0 a1 a2))))))
set_option maxHeartbeats 4000000 in
theorem c_fX11_span {E : Ev} {l : Launch} (hj : jW false E) (σ : St) (sz : Nat) (a0 : Int32) (a1 : Int32) (a2 : Int32) (a3 : Int32) (a4 : Int32) {rr : Int32} {sr : St} (hf : fX11_span σ a0 a1 a2 a3 a4 = some (rr, sr)) : Met l yX11_span (Cond.code yX11_span cX11_span 7 (some .int) :: gT) (rmD 4) (va_Pc [.ref (ea E 0), .int a0, .int a1, .int a2, .int a3, .int a4] (preW false E σ sz)) (QI false E rr sr sz) 0 0 (aW false E sz) := by
  refine r_entry (QI false E rr sr) hj (by decide) [.ref (ea E 0), .int a0, .int a1, .int a2, .int a3, .int a4] (Nat.le_of_ble_eq_true rfl) (fun p e s m args below meth c C => ?_)
  intro H locs ls hP hS hl
  have hl : lv_has ls 7 [(0, .ref (ea E 0)), (1, .int a0), (2, .int a1), (3, .int a2), (4, .int a3), (5, .int a4)] := hl
  obtain ⟨hx, hb, hr, hml, hown, hts, hlocks, hK, hX, hj⟩ := id C
  unfold fX11_span at hf
  refine lv_aload_n hx hb dX11_span_0 rfl (lv_at hl 0 rfl) ?_
  refine lv_iconst (v := 0) hx hb dX11_span_1 (by decide) ?_
  refine r_put (k := 0) (x := 0) C hP hS tyX11 tyX11_ok nmX11 oM_0 rfl iX11 (by decide) wm_t1017 rfl rfl sM_0_0 rfl rfl (Nat.le_of_ble_eq_true rfl) dX11_span_2 (fun H locs hP hS => ?_)
  obtain ⟨σ1, eσ1, hf⟩ := nmS_e hf
  rw [← eσ1] at hP
  refine lv_aload_n hx hb dX11_span_5 rfl (lv_at hl 0 rfl) ?_
  refine lv_iload_n hx hb dX11_span_6 rfl (lv_at hl 1 rfl) ?_
  refine lv_iload_n hx hb dX11_span_7 rfl (lv_at hl 2 rfl) ?_
  refine lv_iload_n hx hb dX11_span_8 rfl (lv_at hl 3 rfl) ?_
  refine r_cVi (n := 3) (As := [.int a0, .int a1, .int a2]) (rest := []) C (c_fX11_heapAt hj σ1 H.size a0 a1 a2) oM_0 rfl gv_RX11_151 (by decide +kernel) (rmD_le (by decide) (by decide)) rfl rfl (Nat.le_of_ble_eq_true rfl) dX11_span_9 hP hS hl.1 (fun H locs hP hS => ?_)
  refine lv_istore (lv' := [(6, .int (fX11_heapAt a0 a1 a2)), (0, .ref (ea E 0)), (1, .int a0), (2, .int a1), (3, .int a2), (4, .int a3), (5, .int a4)]) hx hb dX11_span_12 hl (by decide) rfl (fun ls hl => ?_)
  refine lv_iload hx hb dX11_span_14 (lv_at hl 0 rfl) ?_
  refine lv_iconst (v := (-1)) hx hb dX11_span_16 (by decide) ?_
  refine lv_icmp_eq (tgt := 40) hx hb dX11_span_17 (by decide) (fun c2 => ?_) (fun c2 => ?_)
  · replace hf := it_t c2 hf
    refine lv_iconst (v := (-1)) hx hb dX11_span_40 (by decide) ?_
    refine lv_goto (tgt := 62) hx hb dX11_span_41 (by decide) ?_
    cases hf
    exact r_iret C hP hS dX11_span_62
  · replace hf := it_f c2 hf
    refine lv_aload_n hx hb dX11_span_20 rfl (lv_at hl 1 rfl) ?_
    refine lv_iload hx hb dX11_span_21 (lv_at hl 5 rfl) ?_
    refine r_cVi (n := 1) (As := [.int a3]) (rest := []) C (c_fX11_isHour hj σ1 H.size a3) oM_0 rfl gv_RX11_371 (by decide +kernel) (rmD_le (by decide) (by decide)) rfl rfl (Nat.le_of_ble_eq_true rfl) dX11_span_23 hP hS hl.1 (fun H locs hP hS => ?_)
    refine lv_if_eq (tgt := 40) hx hb dX11_span_26 (by decide) (fun c3 => ?_) (fun c3 => ?_)
    · replace hf := it_t c3 hf
      refine lv_iconst (v := (-1)) hx hb dX11_span_40 (by decide) ?_
      refine lv_goto (tgt := 62) hx hb dX11_span_41 (by decide) ?_
      cases hf
      exact r_iret C hP hS dX11_span_62
    · replace hf := it_f c3 hf
      refine lv_aload_n hx hb dX11_span_29 rfl (lv_at hl 1 rfl) ?_
      refine lv_iload hx hb dX11_span_30 (lv_at hl 6 rfl) ?_
      refine lv_iconst (v := 0) hx hb dX11_span_32 (by decide) ?_
      refine lv_iconst (v := 1) hx hb dX11_span_33 (by decide) ?_
      refine r_cVi (n := 3) (As := [.int a4, .int 0, .int 1]) (rest := []) C (c_fX11_isIn hj σ1 H.size a4 0 1) oM_0 rfl gv_RX11_144 (by decide +kernel) (rmD_le (by decide) (by decide)) rfl rfl (Nat.le_of_ble_eq_true rfl) dX11_span_34 hP hS hl.1 (fun H locs hP hS => ?_)
      refine lv_if_ne (tgt := 44) hx hb dX11_span_37 (by decide) (fun c4 => ?_) (fun c4 => ?_)
      · replace hf := it_f c4 hf
        refine lv_aload_n hx hb dX11_span_44 rfl (lv_at hl 1 rfl) ?_
        refine lv_iload hx hb dX11_span_45 (lv_at hl 0 rfl) ?_
        refine lv_iload hx hb dX11_span_47 (lv_at hl 5 rfl) ?_
        refine lv_iload hx hb dX11_span_49 (lv_at hl 6 rfl) ?_
        refine lv_if_ne (tgt := 58) hx hb dX11_span_51 (by decide) (fun c5 => ?_) (fun c5 => ?_)
        · replace hf := it_f c5 hf
          refine lv_iconst (v := 0) hx hb dX11_span_58 (by decide) ?_
          exact b_fX11_span_59 C σ1 0 a3 (fX11_heapAt a0 a1 a2) hf H locs ls hP hS (lv_sub hl [] rfl)
        · replace hf := it_t c5 hf
          refine lv_iconst (v := 1) hx hb dX11_span_54 (by decide) ?_
          refine lv_goto (tgt := 59) hx hb dX11_span_55 (by decide) ?_
          exact b_fX11_span_59 C σ1 1 a3 (fX11_heapAt a0 a1 a2) hf H locs ls hP hS (lv_sub hl [] rfl)
      · replace hf := it_t c4 hf
        refine lv_iconst (v := (-1)) hx hb dX11_span_40 (by decide) ?_
        refine lv_goto (tgt := 62) hx hb dX11_span_41 (by decide) ?_
        cases hf
        exact r_iret C hP hS dX11_span_62
def fX11_meanOf_8B (σ : St) (rec8 : Int32 → Int32 → Int32 → Int32 → Int32 → Option Int32) (x1 : Int32) (x2 : Int32) (x3 : Int32) (x4 : Int32) (x5 : Int32) : Option Int32 :=
(if 256 ≤ x5 then
(if x4 = 0 then
some (-1)
else
(nz x4 (
some (x3 / x4))))
else
(rdK 256 (σ 3) x5 fun v4 =>
(if v4 = 0 then
rec8 x1 x2 x3 x4 (x5 + 1)
else
(cq (fX11_endOf σ x5 x1 x2) fun r7 =>
rec8 x1 x2 (x3 + r7) (x4 + 1) (x5 + 1)))))
set_option maxHeartbeats 4000000 in
theorem b_fX11_meanOf_8B {E : Ev} {l : Launch} {p : Program} {e : Env} {s : State} {m : MethodId} {args : Array Value} {below : List Frame} {meth : Method} {c : Code} (σ : St) (C : CX false E RX11 cX11_meanOf 6 (some .int) p s m args meth c) {rr : Int32} (rec8 : Int32 → Int32 → Int32 → Int32 → Int32 → Option Int32) (hr8 : ∀  (x1 : Int32) (x2 : Int32) (x3 : Int32) (x4 : Int32) (x5 : Int32), rec8 x1 x2 x3 x4 x5 = some rr → GW false l (rmD 4) E 6 p e s m args below meth c (MQ below (QI false E rr σ s.heap.size) args s 0 0 (aW false E s.heap.size)) σ 8 [(0, .ref (ea E 0)), (1, .int x1), (2, .int x2), (3, .int x3), (4, .int x4), (5, .int x5)] []) : ∀  (x1 : Int32) (x2 : Int32) (x3 : Int32) (x4 : Int32) (x5 : Int32), fX11_meanOf_8B σ rec8 x1 x2 x3 x4 x5 = some rr → GW false l (rmD 4) E 6 p e s m args below meth c (MQ below (QI false E rr σ s.heap.size) args s 0 0 (aW false E s.heap.size)) σ 8 [(0, .ref (ea E 0)), (1, .int x1), (2, .int x2), (3, .int x3), (4, .int x4), (5, .int x5)] [] := by
  intro x1 x2 x3 x4 x5 hf H locs ls hP hS hl
  obtain ⟨hx, hb, hr, hml, hown, hts, hlocks, hK, hX, hj⟩ := id C
  unfold fX11_meanOf_8B at hf
  refine lv_iload hx hb dX11_meanOf_8 (lv_at hl 5 rfl) ?_
  refine lv_sipush (v := 256) hx hb dX11_meanOf_10 (by decide) ?_
  refine lv_icmp_ge (tgt := 52) hx hb dX11_meanOf_13 (by decide) (fun c1 => ?_) (fun c1 => ?_)
  · replace hf := it_t c1 hf
    refine lv_iload hx hb dX11_meanOf_52 (lv_at hl 4 rfl) ?_
    refine lv_if_ne (tgt := 61) hx hb dX11_meanOf_54 (by decide) (fun c2 => ?_) (fun c2 => ?_)
    · replace hf := it_f c2 hf
      refine lv_iload_n hx hb dX11_meanOf_61 rfl (lv_at hl 3 rfl) ?_
      refine lv_iload hx hb dX11_meanOf_62 (lv_at hl 4 rfl) ?_
      obtain ⟨h3, hf⟩ := nz_e hf
      refine lv_idiv hx hb dX11_meanOf_64 h3 ?_
      cases hf
      exact r_iret C hP hS dX11_meanOf_65
    · replace hf := it_t c2 hf
      refine lv_iconst (v := (-1)) hx hb dX11_meanOf_57 (by decide) ?_
      refine lv_goto (tgt := 65) hx hb dX11_meanOf_58 (by decide) ?_
      cases hf
      exact r_iret C hP hS dX11_meanOf_65
  · replace hf := it_f c1 hf
    refine lv_aload_n hx hb dX11_meanOf_16 rfl (lv_at hl 0 rfl) ?_
    refine r_get (k := 5) (v := .ref (ea E 3)) C hP oM_0 rfl iX11 (by decide) wm_t1022 rfl rfl dX11_meanOf_17 ?_
    refine lv_iload hx hb dX11_meanOf_20 (lv_at hl 5 rfl) ?_
    have h5 := (rdK_e hf).1
    refine r_ald C hP aM_3 h5 dX11_meanOf_22 ?_
    refine lv_topi (fun v4 ev4 => ?_)
    replace hf := rdK_n ev4 hf
    refine lv_if_ne (tgt := 29) hx hb dX11_meanOf_23 (by decide) (fun c6 => ?_) (fun c6 => ?_)
    · replace hf := it_f c6 hf
      refine lv_iload_n hx hb dX11_meanOf_29 rfl (lv_at hl 3 rfl) ?_
      refine lv_aload_n hx hb dX11_meanOf_30 rfl (lv_at hl 0 rfl) ?_
      refine lv_iload hx hb dX11_meanOf_31 (lv_at hl 5 rfl) ?_
      refine lv_iload_n hx hb dX11_meanOf_33 rfl (lv_at hl 1 rfl) ?_
      refine lv_iload_n hx hb dX11_meanOf_34 rfl (lv_at hl 2 rfl) ?_
      obtain ⟨r7, hc8, hf⟩ := cq_e hf
      refine r_cVi (n := 3) (As := [.int x5, .int x1, .int x2]) (rest := [.int x3]) C (c_fX11_endOf hj σ H.size x5 x1 x2 hc8) oM_0 rfl gv_RX11_374 (by decide +kernel) (rmD_le (by decide) (by decide)) rfl rfl (Nat.le_of_ble_eq_true rfl) dX11_meanOf_35 hP hS hl.1 (fun H locs hP hS => ?_)
      refine lv_iadd hx hb dX11_meanOf_38 ?_
      refine lv_istore_n (lv' := [(3, .int (x3 + r7)), (0, .ref (ea E 0)), (1, .int x1), (2, .int x2), (4, .int x4), (5, .int x5)]) hx hb dX11_meanOf_39 rfl hl (by decide) rfl (fun ls hl => ?_)
      refine lv_iload hx hb dX11_meanOf_40 (lv_at hl 4 rfl) ?_
      refine lv_iconst (v := 1) hx hb dX11_meanOf_42 (by decide) ?_
      refine lv_iadd hx hb dX11_meanOf_43 ?_
      refine lv_istore (lv' := [(4, .int (x4 + 1)), (3, .int (x3 + r7)), (0, .ref (ea E 0)), (1, .int x1), (2, .int x2), (5, .int x5)]) hx hb dX11_meanOf_44 hl (by decide) rfl (fun ls hl => ?_)
      refine lv_iinc (v := (x5 + 1)) (lv' := [(5, .int (x5 + 1)), (4, .int (x4 + 1)), (3, .int (x3 + r7)), (0, .ref (ea E 0)), (1, .int x1), (2, .int x2)]) hx hb dX11_meanOf_46 hl (k := 5) rfl rfl (by decide) rfl (fun ls hl => ?_)
      refine lv_goto (tgt := 8) hx hb dX11_meanOf_49 (by decide) ?_
      exact hr8 x1 x2 (x3 + r7) (x4 + 1) (x5 + 1) hf H locs ls hP hS (lv_sub hl [3, 4, 5, 2, 1, 0] rfl)
    · replace hf := it_t c6 hf
      refine lv_goto (tgt := 46) hx hb dX11_meanOf_26 (by decide) ?_
      refine lv_iinc (v := (x5 + 1)) (lv' := [(5, .int (x5 + 1)), (0, .ref (ea E 0)), (1, .int x1), (2, .int x2), (3, .int x3), (4, .int x4)]) hx hb dX11_meanOf_46 hl (k := 5) rfl rfl (by decide) rfl (fun ls hl => ?_)
      refine lv_goto (tgt := 8) hx hb dX11_meanOf_49 (by decide) ?_
      exact hr8 x1 x2 x3 x4 (x5 + 1) hf H locs ls hP hS (lv_sub hl [1, 2, 3, 4, 5, 0] rfl)
def fX11_meanOf_8 (σ : St) : Nat → Int32 → Int32 → Int32 → Int32 → Int32 → Option Int32
  | 0 => fun _ _ _ _ _ => none
  | n + 1 => fun x1 x2 x3 x4 x5 => fX11_meanOf_8B σ (fX11_meanOf_8 σ n) x1 x2 x3 x4 x5
theorem b_fX11_meanOf_8 {E : Ev} {l : Launch} {p : Program} {e : Env} {s : State} {m : MethodId} {args : Array Value} {below : List Frame} {meth : Method} {c : Code} (σ : St) (C : CX false E RX11 cX11_meanOf 6 (some .int) p s m args meth c) {rr : Int32} : ∀ (n : Nat) (x1 : Int32) (x2 : Int32) (x3 : Int32) (x4 : Int32) (x5 : Int32), fX11_meanOf_8 σ n x1 x2 x3 x4 x5 = some rr → GW false l (rmD 4) E 6 p e s m args below meth c (MQ below (QI false E rr σ s.heap.size) args s 0 0 (aW false E s.heap.size)) σ 8 [(0, .ref (ea E 0)), (1, .int x1), (2, .int x2), (3, .int x3), (4, .int x4), (5, .int x5)] [] := by
  intro n
  induction n with
  | zero => intro x1 x2 x3 x4 x5 hf; have hf : (none : Option _) = some _ := hf; cases hf
  | succ n ih => intro x1 x2 x3 x4 x5 hf; exact b_fX11_meanOf_8B σ C (fX11_meanOf_8 σ n) ih x1 x2 x3 x4 x5 hf
def fX11_meanOf (σ : St) (a0 : Int32) (a1 : Int32) : Option Int32 :=
fX11_meanOf_8 σ FU a0 a1 0 0 0
set_option maxHeartbeats 4000000 in
theorem c_fX11_meanOf {E : Ev} {l : Launch} (hj : jW false E) (σ : St) (sz : Nat) (a0 : Int32) (a1 : Int32) {rr : Int32} (hf : fX11_meanOf σ a0 a1 = some rr) : Met l yX11_meanOf (Cond.code yX11_meanOf cX11_meanOf 6 (some .int) :: gT) (rmD 4) (va_Pc [.ref (ea E 0), .int a0, .int a1] (preW false E σ sz)) (QI false E rr σ sz) 0 0 (aW false E sz) := by
  refine r_entry (QI false E rr σ) hj (by decide) [.ref (ea E 0), .int a0, .int a1] (Nat.le_of_ble_eq_true rfl) (fun p e s m args below meth c C => ?_)
  intro H locs ls hP hS hl
  have hl : lv_has ls 6 [(0, .ref (ea E 0)), (1, .int a0), (2, .int a1)] := hl
  obtain ⟨hx, hb, hr, hml, hown, hts, hlocks, hK, hX, hj⟩ := id C
  unfold fX11_meanOf at hf
  refine lv_iconst (v := 0) hx hb dX11_meanOf_0 (by decide) ?_
  refine lv_istore_n (lv' := [(3, .int 0), (0, .ref (ea E 0)), (1, .int a0), (2, .int a1)]) hx hb dX11_meanOf_1 rfl hl (by decide) rfl (fun ls hl => ?_)
  refine lv_iconst (v := 0) hx hb dX11_meanOf_2 (by decide) ?_
  refine lv_istore (lv' := [(4, .int 0), (3, .int 0), (0, .ref (ea E 0)), (1, .int a0), (2, .int a1)]) hx hb dX11_meanOf_3 hl (by decide) rfl (fun ls hl => ?_)
  refine lv_iconst (v := 0) hx hb dX11_meanOf_5 (by decide) ?_
  refine lv_istore (lv' := [(5, .int 0), (4, .int 0), (3, .int 0), (0, .ref (ea E 0)), (1, .int a0), (2, .int a1)]) hx hb dX11_meanOf_6 hl (by decide) rfl (fun ls hl => ?_)
  exact b_fX11_meanOf_8 σ C FU a0 a1 0 0 0 hf H locs ls hP hS (lv_sub hl [3, 4, 5, 2, 1, 0] rfl)
