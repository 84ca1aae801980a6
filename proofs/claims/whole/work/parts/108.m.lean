def fX11_momentOf_8B (σ : St) (rec8 : Int32 → Int32 → Int32 → Option Int32) (x1 : Int32) (x2 : Int32) (x3 : Int32) : Option Int32 :=
(if ((144 * x1) + 144) ≤ x3 then
some x2
else
(rdK 288 (σ 5) x3 fun v2 =>
(rdK 288 (σ 6) x3 fun v4 =>
(nm (x2 + (((10 * v2) + v4) * (fX11_columnArm x3))) fun v6 =>
rec8 x1 v6 (x3 + 1)))))
set_option maxHeartbeats 4000000 in
theorem b_fX11_momentOf_8B {E : Ev} {l : Launch} {p : Program} {e : Env} {s : State} {m : MethodId} {args : Array Value} {below : List Frame} {meth : Method} {c : Code} (σ : St) (C : CX false E RX11 cX11_momentOf 4 (some .int) p s m args meth c) {rr : Int32} (rec8 : Int32 → Int32 → Int32 → Option Int32) (hr8 : ∀  (x1 : Int32) (x2 : Int32) (x3 : Int32), rec8 x1 x2 x3 = some rr → GW false l (rmD 2) E 4 p e s m args below meth c (MQ below (QI false E rr σ s.heap.size) args s 0 0 (aW false E s.heap.size)) σ 8 [(0, .ref (ea E 0)), (1, .int x1), (2, .int x2), (3, .int x3)] []) : ∀  (x1 : Int32) (x2 : Int32) (x3 : Int32), fX11_momentOf_8B σ rec8 x1 x2 x3 = some rr → GW false l (rmD 2) E 4 p e s m args below meth c (MQ below (QI false E rr σ s.heap.size) args s 0 0 (aW false E s.heap.size)) σ 8 [(0, .ref (ea E 0)), (1, .int x1), (2, .int x2), (3, .int x3)] [] := by
  intro x1 x2 x3 hf H locs ls hP hS hl
  obtain ⟨hx, hb, hr, hml, hown, hts, hlocks, hK, hX, hj⟩ := id C
  unfold fX11_momentOf_8B at hf
  refine lv_iload_n hx hb dX11_momentOf_8 rfl (lv_at hl 3 rfl) ?_
  refine lv_sipush (v := 144) hx hb dX11_momentOf_9 (by decide) ?_
  refine lv_iload_n hx hb dX11_momentOf_12 rfl (lv_at hl 1 rfl) ?_
  refine lv_imul hx hb dX11_momentOf_13 ?_
  refine lv_sipush (v := 144) hx hb dX11_momentOf_14 (by decide) ?_
  refine lv_iadd hx hb dX11_momentOf_17 ?_
  refine lv_icmp_ge (tgt := 52) hx hb dX11_momentOf_18 (by decide) (fun c1 => ?_) (fun c1 => ?_)
  · replace hf := it_t c1 hf
    refine lv_iload_n hx hb dX11_momentOf_52 rfl (lv_at hl 2 rfl) ?_
    cases hf
    exact r_iret C hP hS dX11_momentOf_53
  · replace hf := it_f c1 hf
    refine lv_iload_n hx hb dX11_momentOf_21 rfl (lv_at hl 2 rfl) ?_
    refine lv_bipush (v := 10) hx hb dX11_momentOf_22 (by decide) ?_
    refine lv_aload_n hx hb dX11_momentOf_24 rfl (lv_at hl 0 rfl) ?_
    refine r_get (k := 7) (v := .ref (ea E 5)) C hP oM_0 rfl iX11 (by decide) wm_t1024 rfl rfl dX11_momentOf_25 ?_
    refine lv_iload_n hx hb dX11_momentOf_28 rfl (lv_at hl 3 rfl) ?_
    have h3 := (rdK_e hf).1
    refine r_ald C hP aM_5 h3 dX11_momentOf_29 ?_
    refine lv_topi (fun v2 ev2 => ?_)
    replace hf := rdK_n ev2 hf
    refine lv_imul hx hb dX11_momentOf_30 ?_
    refine lv_aload_n hx hb dX11_momentOf_31 rfl (lv_at hl 0 rfl) ?_
    refine r_get (k := 8) (v := .ref (ea E 6)) C hP oM_0 rfl iX11 (by decide) wm_t1025 rfl rfl dX11_momentOf_32 ?_
    refine lv_iload_n hx hb dX11_momentOf_35 rfl (lv_at hl 3 rfl) ?_
    have h5 := (rdK_e hf).1
    refine r_ald C hP aM_6 h5 dX11_momentOf_36 ?_
    refine lv_topi (fun v4 ev4 => ?_)
    replace hf := rdK_n ev4 hf
    refine lv_iadd hx hb dX11_momentOf_37 ?_
    refine lv_aload_n hx hb dX11_momentOf_38 rfl (lv_at hl 0 rfl) ?_
    refine lv_iload_n hx hb dX11_momentOf_39 rfl (lv_at hl 3 rfl) ?_
    refine r_cVi (n := 1) (As := [.int x3]) (rest := [.int ((10 * v2) + v4), .int x2]) C (c_fX11_columnArm hj σ H.size x3) oM_0 rfl gv_RX11_312 (by decide +kernel) (rmD_le (by decide) (by decide)) rfl rfl (Nat.le_of_ble_eq_true rfl) dX11_momentOf_40 hP hS hl.1 (fun H locs hP hS => ?_)
    refine lv_imul hx hb dX11_momentOf_43 ?_
    refine lv_iadd hx hb dX11_momentOf_44 ?_
    refine lv_topi (fun v6 ev6 => ?_)
    replace hf := nm_i ev6 hf
    refine lv_istore_n (lv' := [(2, .int v6), (0, .ref (ea E 0)), (1, .int x1), (3, .int x3)]) hx hb dX11_momentOf_45 rfl hl (by decide) rfl (fun ls hl => ?_)
    refine lv_iinc (v := (x3 + 1)) (lv' := [(3, .int (x3 + 1)), (2, .int v6), (0, .ref (ea E 0)), (1, .int x1)]) hx hb dX11_momentOf_46 hl (k := 3) rfl rfl (by decide) rfl (fun ls hl => ?_)
    refine lv_goto (tgt := 8) hx hb dX11_momentOf_49 (by decide) ?_
    exact hr8 x1 v6 (x3 + 1) hf H locs ls hP hS (lv_sub hl [2, 3, 1, 0] rfl)
def fX11_momentOf_8 (σ : St) : Nat → Int32 → Int32 → Int32 → Option Int32
  | 0 => fun _ _ _ => none
  | n + 1 => fun x1 x2 x3 => fX11_momentOf_8B σ (fX11_momentOf_8 σ n) x1 x2 x3
theorem b_fX11_momentOf_8 {E : Ev} {l : Launch} {p : Program} {e : Env} {s : State} {m : MethodId} {args : Array Value} {below : List Frame} {meth : Method} {c : Code} (σ : St) (C : CX false E RX11 cX11_momentOf 4 (some .int) p s m args meth c) {rr : Int32} : ∀ (n : Nat) (x1 : Int32) (x2 : Int32) (x3 : Int32), fX11_momentOf_8 σ n x1 x2 x3 = some rr → GW false l (rmD 2) E 4 p e s m args below meth c (MQ below (QI false E rr σ s.heap.size) args s 0 0 (aW false E s.heap.size)) σ 8 [(0, .ref (ea E 0)), (1, .int x1), (2, .int x2), (3, .int x3)] [] := by
  intro n
  induction n with
  | zero => intro x1 x2 x3 hf; have hf : (none : Option _) = some _ := hf; cases hf
  | succ n ih => intro x1 x2 x3 hf; exact b_fX11_momentOf_8B σ C (fX11_momentOf_8 σ n) ih x1 x2 x3 hf
def fX11_momentOf (σ : St) (a0 : Int32) : Option Int32 :=
fX11_momentOf_8 σ FU a0 0 (144 * a0)
set_option maxHeartbeats 4000000 in
theorem c_fX11_momentOf {E : Ev} {l : Launch} (hj : jW false E) (σ : St) (sz : Nat) (a0 : Int32) {rr : Int32} (hf : fX11_momentOf σ a0 = some rr) : Met l yX11_momentOf (Cond.code yX11_momentOf cX11_momentOf 4 (some .int) :: gT) (rmD 2) (va_Pc [.ref (ea E 0), .int a0] (preW false E σ sz)) (QI false E rr σ sz) 0 0 (aW false E sz) := by
  refine r_entry (QI false E rr σ) hj (by decide) [.ref (ea E 0), .int a0] (Nat.le_of_ble_eq_true rfl) (fun p e s m args below meth c C => ?_)
  intro H locs ls hP hS hl
  have hl : lv_has ls 4 [(0, .ref (ea E 0)), (1, .int a0)] := hl
  obtain ⟨hx, hb, hr, hml, hown, hts, hlocks, hK, hX, hj⟩ := id C
  unfold fX11_momentOf at hf
  refine lv_iconst (v := 0) hx hb dX11_momentOf_0 (by decide) ?_
  refine lv_istore_n (lv' := [(2, .int 0), (0, .ref (ea E 0)), (1, .int a0)]) hx hb dX11_momentOf_1 rfl hl (by decide) rfl (fun ls hl => ?_)
  refine lv_sipush (v := 144) hx hb dX11_momentOf_2 (by decide) ?_
  refine lv_iload_n hx hb dX11_momentOf_5 rfl (lv_at hl 2 rfl) ?_
  refine lv_imul hx hb dX11_momentOf_6 ?_
  refine lv_istore_n (lv' := [(3, .int (144 * a0)), (2, .int 0), (0, .ref (ea E 0)), (1, .int a0)]) hx hb dX11_momentOf_7 rfl hl (by decide) rfl (fun ls hl => ?_)
  exact b_fX11_momentOf_8 σ C FU a0 0 (144 * a0) hf H locs ls hP hS (lv_sub hl [2, 3, 1, 0] rfl)
def fX11_weightOf_10B (σ : St) (rec10 : Int32 → Int32 → Int32 → Option Int32) (x1 : Int32) (x2 : Int32) (x3 : Int32) : Option Int32 :=
(if ((144 * x1) + 144) ≤ x3 then
some x2
else
(rdK 288 (σ 5) x3 fun v2 =>
(rdK 288 (σ 6) x3 fun v4 =>
rec10 x1 ((x2 + (10 * v2)) + v4) (x3 + 1))))
set_option maxHeartbeats 4000000 in
theorem b_fX11_weightOf_10B {E : Ev} {l : Launch} {p : Program} {e : Env} {s : State} {m : MethodId} {args : Array Value} {below : List Frame} {meth : Method} {c : Code} (σ : St) (C : CX false E RX11 cX11_weightOf 4 (some .int) p s m args meth c) {rr : Int32} (rec10 : Int32 → Int32 → Int32 → Option Int32) (hr10 : ∀  (x1 : Int32) (x2 : Int32) (x3 : Int32), rec10 x1 x2 x3 = some rr → GW false l (rmD 1) E 4 p e s m args below meth c (MQ below (QI false E rr σ s.heap.size) args s 0 0 (aW false E s.heap.size)) σ 10 [(0, .ref (ea E 0)), (1, .int x1), (2, .int x2), (3, .int x3)] []) : ∀  (x1 : Int32) (x2 : Int32) (x3 : Int32), fX11_weightOf_10B σ rec10 x1 x2 x3 = some rr → GW false l (rmD 1) E 4 p e s m args below meth c (MQ below (QI false E rr σ s.heap.size) args s 0 0 (aW false E s.heap.size)) σ 10 [(0, .ref (ea E 0)), (1, .int x1), (2, .int x2), (3, .int x3)] [] := by
  intro x1 x2 x3 hf H locs ls hP hS hl
  obtain ⟨hx, hb, hr, hml, hown, hts, hlocks, hK, hX, hj⟩ := id C
  unfold fX11_weightOf_10B at hf
  refine lv_iload_n hx hb dX11_weightOf_10 rfl (lv_at hl 3 rfl) ?_
  refine lv_sipush (v := 144) hx hb dX11_weightOf_11 (by decide) ?_
  refine lv_iload_n hx hb dX11_weightOf_14 rfl (lv_at hl 1 rfl) ?_
  refine lv_imul hx hb dX11_weightOf_15 ?_
  refine lv_sipush (v := 144) hx hb dX11_weightOf_16 (by decide) ?_
  refine lv_iadd hx hb dX11_weightOf_19 ?_
  refine lv_icmp_ge (tgt := 48) hx hb dX11_weightOf_20 (by decide) (fun c1 => ?_) (fun c1 => ?_)
  · replace hf := it_t c1 hf
    refine lv_iload_n hx hb dX11_weightOf_48 rfl (lv_at hl 2 rfl) ?_
    cases hf
    exact r_iret C hP hS dX11_weightOf_49
  · replace hf := it_f c1 hf
    refine lv_iload_n hx hb dX11_weightOf_23 rfl (lv_at hl 2 rfl) ?_
    refine lv_bipush (v := 10) hx hb dX11_weightOf_24 (by decide) ?_
    refine lv_aload_n hx hb dX11_weightOf_26 rfl (lv_at hl 0 rfl) ?_
    refine r_get (k := 7) (v := .ref (ea E 5)) C hP oM_0 rfl iX11 (by decide) wm_t1024 rfl rfl dX11_weightOf_27 ?_
    refine lv_iload_n hx hb dX11_weightOf_30 rfl (lv_at hl 3 rfl) ?_
    have h3 := (rdK_e hf).1
    refine r_ald C hP aM_5 h3 dX11_weightOf_31 ?_
    refine lv_topi (fun v2 ev2 => ?_)
    replace hf := rdK_n ev2 hf
    refine lv_imul hx hb dX11_weightOf_32 ?_
    refine lv_iadd hx hb dX11_weightOf_33 ?_
    refine lv_aload_n hx hb dX11_weightOf_34 rfl (lv_at hl 0 rfl) ?_
    refine r_get (k := 8) (v := .ref (ea E 6)) C hP oM_0 rfl iX11 (by decide) wm_t1025 rfl rfl dX11_weightOf_35 ?_
    refine lv_iload_n hx hb dX11_weightOf_38 rfl (lv_at hl 3 rfl) ?_
    have h5 := (rdK_e hf).1
    refine r_ald C hP aM_6 h5 dX11_weightOf_39 ?_
    refine lv_topi (fun v4 ev4 => ?_)
    replace hf := rdK_n ev4 hf
    refine lv_iadd hx hb dX11_weightOf_40 ?_
    refine lv_istore_n (lv' := [(2, .int ((x2 + (10 * v2)) + v4)), (0, .ref (ea E 0)), (1, .int x1), (3, .int x3)]) hx hb dX11_weightOf_41 rfl hl (by decide) rfl (fun ls hl => ?_)
    refine lv_iinc (v := (x3 + 1)) (lv' := [(3, .int (x3 + 1)), (2, .int ((x2 + (10 * v2)) + v4)), (0, .ref (ea E 0)), (1, .int x1)]) hx hb dX11_weightOf_42 hl (k := 3) rfl rfl (by decide) rfl (fun ls hl => ?_)
    refine lv_goto (tgt := 10) hx hb dX11_weightOf_45 (by decide) ?_
    exact hr10 x1 ((x2 + (10 * v2)) + v4) (x3 + 1) hf H locs ls hP hS (lv_sub hl [2, 3, 1, 0] rfl)
def fX11_weightOf_10 (σ : St) : Nat → Int32 → Int32 → Int32 → Option Int32
  | 0 => fun _ _ _ => none
  | n + 1 => fun x1 x2 x3 => fX11_weightOf_10B σ (fX11_weightOf_10 σ n) x1 x2 x3
theorem b_fX11_weightOf_10 {E : Ev} {l : Launch} {p : Program} {e : Env} {s : State} {m : MethodId} {args : Array Value} {below : List Frame} {meth : Method} {c : Code} (σ : St) (C : CX false E RX11 cX11_weightOf 4 (some .int) p s m args meth c) {rr : Int32} : ∀ (n : Nat) (x1 : Int32) (x2 : Int32) (x3 : Int32), fX11_weightOf_10 σ n x1 x2 x3 = some rr → GW false l (rmD 1) E 4 p e s m args below meth c (MQ below (QI false E rr σ s.heap.size) args s 0 0 (aW false E s.heap.size)) σ 10 [(0, .ref (ea E 0)), (1, .int x1), (2, .int x2), (3, .int x3)] [] := by
  intro n
  induction n with
  | zero => intro x1 x2 x3 hf; have hf : (none : Option _) = some _ := hf; cases hf
  | succ n ih => intro x1 x2 x3 hf; exact b_fX11_weightOf_10B σ C (fX11_weightOf_10 σ n) ih x1 x2 x3 hf
def fX11_weightOf (σ : St) (a0 : Int32) : Option Int32 :=
fX11_weightOf_10 σ FU a0 2000 (144 * a0)
set_option maxHeartbeats 4000000 in
theorem c_fX11_weightOf {E : Ev} {l : Launch} (hj : jW false E) (σ : St) (sz : Nat) (a0 : Int32) {rr : Int32} (hf : fX11_weightOf σ a0 = some rr) : Met l yX11_weightOf (Cond.code yX11_weightOf cX11_weightOf 4 (some .int) :: gT) (rmD 1) (va_Pc [.ref (ea E 0), .int a0] (preW false E σ sz)) (QI false E rr σ sz) 0 0 (aW false E sz) := by
  refine r_entry (QI false E rr σ) hj (by decide) [.ref (ea E 0), .int a0] (Nat.le_of_ble_eq_true rfl) (fun p e s m args below meth c C => ?_)
  intro H locs ls hP hS hl
  have hl : lv_has ls 4 [(0, .ref (ea E 0)), (1, .int a0)] := hl
  obtain ⟨hx, hb, hr, hml, hown, hts, hlocks, hK, hX, hj⟩ := id C
  unfold fX11_weightOf at hf
  refine lv_sipush (v := 2000) hx hb dX11_weightOf_0 (by decide) ?_
  refine lv_istore_n (lv' := [(2, .int 2000), (0, .ref (ea E 0)), (1, .int a0)]) hx hb dX11_weightOf_3 rfl hl (by decide) rfl (fun ls hl => ?_)
  refine lv_sipush (v := 144) hx hb dX11_weightOf_4 (by decide) ?_
  refine lv_iload_n hx hb dX11_weightOf_7 rfl (lv_at hl 2 rfl) ?_
  refine lv_imul hx hb dX11_weightOf_8 ?_
  refine lv_istore_n (lv' := [(3, .int (144 * a0)), (2, .int 2000), (0, .ref (ea E 0)), (1, .int a0)]) hx hb dX11_weightOf_9 rfl hl (by decide) rfl (fun ls hl => ?_)
  exact b_fX11_weightOf_10 σ C FU a0 2000 (144 * a0) hf H locs ls hP hS (lv_sub hl [2, 3, 1, 0] rfl)
def fX11_armAt (σ : St) (a0 : Int32) : Option Int32 :=
(if a0 = 60 then
(rdK 7 (σ 27) 6 fun v8 =>
some (10 * v8))
else
(rdK 7 (σ 27) (a0 / 10) fun v2 =>
(rdK 7 (σ 27) ((a0 / 10) + 1) fun v4 =>
(rdK 7 (σ 27) (a0 / 10) fun v6 =>
some ((10 * v2) + ((v4 - v6) * (a0 - a0 / 10 * 10)))))))
set_option maxHeartbeats 4000000 in
theorem c_fX11_armAt {E : Ev} {l : Launch} (hj : jW false E) (σ : St) (sz : Nat) (a0 : Int32) {rr : Int32} (hf : fX11_armAt σ a0 = some rr) : Met l yX11_armAt (Cond.code yX11_armAt cX11_armAt 3 (some .int) :: gT) (rmD 1) (va_Pc [.ref (ea E 0), .int a0] (preW false E σ sz)) (QI false E rr σ sz) 0 0 (aW false E sz) := by
  refine r_entry (QI false E rr σ) hj (by decide) [.ref (ea E 0), .int a0] (Nat.le_of_ble_eq_true rfl) (fun p e s m args below meth c C => ?_)
  intro H locs ls hP hS hl
  have hl : lv_has ls 3 [(0, .ref (ea E 0)), (1, .int a0)] := hl
  obtain ⟨hx, hb, hr, hml, hown, hts, hlocks, hK, hX, hj⟩ := id C
  unfold fX11_armAt at hf
  refine lv_iload_n hx hb dX11_armAt_0 rfl (lv_at hl 1 rfl) ?_
  refine lv_bipush (v := 10) hx hb dX11_armAt_1 (by decide) ?_
  refine lv_idiv hx hb dX11_armAt_3 (by decide) ?_
  refine lv_istore_n (lv' := [(2, .int (a0 / 10)), (0, .ref (ea E 0)), (1, .int a0)]) hx hb dX11_armAt_4 rfl hl (by decide) rfl (fun ls hl => ?_)
  refine lv_iload_n hx hb dX11_armAt_5 rfl (lv_at hl 2 rfl) ?_
  refine lv_bipush (v := 60) hx hb dX11_armAt_6 (by decide) ?_
  refine lv_icmp_ne (tgt := 24) hx hb dX11_armAt_8 (by decide) (fun c1 => ?_) (fun c1 => ?_)
  · replace hf := it_f c1 hf
    refine lv_bipush (v := 10) hx hb dX11_armAt_24 (by decide) ?_
    refine lv_aload_n hx hb dX11_armAt_26 rfl (lv_at hl 1 rfl) ?_
    refine r_get (k := 44) (v := .ref (ea E 27)) C hP oM_0 rfl iX11 (by decide) wm_t1061 rfl rfl dX11_armAt_27 ?_
    refine lv_iload_n hx hb dX11_armAt_30 rfl (lv_at hl 0 rfl) ?_
    have h3 := (rdK_e hf).1
    refine r_ald C hP aM_27 h3 dX11_armAt_31 ?_
    refine lv_topi (fun v2 ev2 => ?_)
    replace hf := rdK_n ev2 hf
    refine lv_imul hx hb dX11_armAt_32 ?_
    refine lv_aload_n hx hb dX11_armAt_33 rfl (lv_at hl 1 rfl) ?_
    refine r_get (k := 44) (v := .ref (ea E 27)) C hP oM_0 rfl iX11 (by decide) wm_t1061 rfl rfl dX11_armAt_34 ?_
    refine lv_iload_n hx hb dX11_armAt_37 rfl (lv_at hl 0 rfl) ?_
    refine lv_iconst (v := 1) hx hb dX11_armAt_38 (by decide) ?_
    refine lv_iadd hx hb dX11_armAt_39 ?_
    have h5 := (rdK_e hf).1
    refine r_ald C hP aM_27 h5 dX11_armAt_40 ?_
    refine lv_topi (fun v4 ev4 => ?_)
    replace hf := rdK_n ev4 hf
    refine lv_aload_n hx hb dX11_armAt_41 rfl (lv_at hl 1 rfl) ?_
    refine r_get (k := 44) (v := .ref (ea E 27)) C hP oM_0 rfl iX11 (by decide) wm_t1061 rfl rfl dX11_armAt_42 ?_
    refine lv_iload_n hx hb dX11_armAt_45 rfl (lv_at hl 0 rfl) ?_
    have h7 := (rdK_e hf).1
    refine r_ald C hP aM_27 h7 dX11_armAt_46 ?_
    refine lv_topi (fun v6 ev6 => ?_)
    replace hf := rdK_n ev6 hf
    refine lv_isub hx hb dX11_armAt_47 ?_
    refine lv_iload_n hx hb dX11_armAt_48 rfl (lv_at hl 2 rfl) ?_
    refine lv_bipush (v := 10) hx hb dX11_armAt_49 (by decide) ?_
    refine lv_irem hx hb dX11_armAt_51 (by decide) ?_
    refine lv_imul hx hb dX11_armAt_52 ?_
    refine lv_iadd hx hb dX11_armAt_53 ?_
    cases hf
    exact r_iret C hP hS dX11_armAt_54
  · replace hf := it_t c1 hf
    refine lv_bipush (v := 10) hx hb dX11_armAt_11 (by decide) ?_
    refine lv_aload_n hx hb dX11_armAt_13 rfl (lv_at hl 1 rfl) ?_
    refine r_get (k := 44) (v := .ref (ea E 27)) C hP oM_0 rfl iX11 (by decide) wm_t1061 rfl rfl dX11_armAt_14 ?_
    refine lv_bipush (v := 6) hx hb dX11_armAt_17 (by decide) ?_
    have h9 := (rdK_e hf).1
    refine r_ald C hP aM_27 h9 dX11_armAt_19 ?_
    refine lv_topi (fun v8 ev8 => ?_)
    replace hf := rdK_n ev8 hf
    refine lv_imul hx hb dX11_armAt_20 ?_
    refine lv_goto (tgt := 54) hx hb dX11_armAt_21 (by decide) ?_
    cases hf
    exact r_iret C hP hS dX11_armAt_54
def fX11_leanOf_19B (σ : St) (rec19 : Int32 → Int64 → Int32 → Option Int32) (x2 : Int32) (x3 : Int64) (x5 : Int32) : Option Int32 :=
(if 60 < x5 then
some (-1)
else
(cq (fX11_armAt σ x5) fun r2 =>
(if (lg_cmp (((r2 : Int32).toInt64) * ((x2 : Int32).toInt64)) x3) < 0 then
rec19 x2 x3 (x5 + 1)
else
some x5)))
set_option maxHeartbeats 4000000 in
theorem b_fX11_leanOf_19B {E : Ev} {l : Launch} {p : Program} {e : Env} {s : State} {m : MethodId} {args : Array Value} {below : List Frame} {meth : Method} {c : Code} (σ : St) (C : CX false E RX11 cX11_leanOf 6 (some .int) p s m args meth c) {rr : Int32} (rec19 : Int32 → Int64 → Int32 → Option Int32) (hr19 : ∀  (x2 : Int32) (x3 : Int64) (x5 : Int32), rec19 x2 x3 x5 = some rr → GW false l (rmD 2) E 6 p e s m args below meth c (MQ below (QI false E rr σ s.heap.size) args s 0 0 (aW false E s.heap.size)) σ 19 [(0, .ref (ea E 0)), (2, .int x2), (3, .long x3), (5, .int x5)] []) : ∀  (x2 : Int32) (x3 : Int64) (x5 : Int32), fX11_leanOf_19B σ rec19 x2 x3 x5 = some rr → GW false l (rmD 2) E 6 p e s m args below meth c (MQ below (QI false E rr σ s.heap.size) args s 0 0 (aW false E s.heap.size)) σ 19 [(0, .ref (ea E 0)), (2, .int x2), (3, .long x3), (5, .int x5)] [] := by
  intro x2 x3 x5 hf H locs ls hP hS hl
  obtain ⟨hx, hb, hr, hml, hown, hts, hlocks, hK, hX, hj⟩ := id C
  unfold fX11_leanOf_19B at hf
  refine lv_iload hx hb dX11_leanOf_19 (lv_at hl 3 rfl) ?_
  refine lv_bipush (v := 60) hx hb dX11_leanOf_21 (by decide) ?_
  refine lv_icmp_gt (tgt := 50) hx hb dX11_leanOf_23 (by decide) (fun c1 => ?_) (fun c1 => ?_)
  · replace hf := it_t c1 hf
    refine lv_iconst (v := (-1)) hx hb dX11_leanOf_50 (by decide) ?_
    cases hf
    exact r_iret C hP hS dX11_leanOf_51
  · replace hf := it_f c1 hf
    refine lv_aload_n hx hb dX11_leanOf_26 rfl (lv_at hl 0 rfl) ?_
    refine lv_iload hx hb dX11_leanOf_27 (lv_at hl 3 rfl) ?_
    obtain ⟨r2, hc3, hf⟩ := cq_e hf
    refine r_cVi (n := 1) (As := [.int x5]) (rest := []) C (c_fX11_armAt hj σ H.size x5 hc3) oM_0 rfl gv_RX11_317 (by decide +kernel) (rmD_le (by decide) (by decide)) rfl rfl (Nat.le_of_ble_eq_true rfl) dX11_leanOf_29 hP hS hl.1 (fun H locs hP hS => ?_)
    refine lv_i2l (v := (r2 : Int32).toInt64) hx hb dX11_leanOf_32 rfl ?_
    refine lv_iload_n hx hb dX11_leanOf_33 rfl (lv_at hl 1 rfl) ?_
    refine lv_i2l (v := (x2 : Int32).toInt64) hx hb dX11_leanOf_34 rfl ?_
    refine lv_lmul hx hb dX11_leanOf_35 ?_
    refine lv_lload_n hx hb dX11_leanOf_36 rfl (lv_at hl 2 rfl) ?_
    refine W.lcmp hx hb dX11_leanOf_37 ?_
    refine lv_if_lt (tgt := 44) hx hb dX11_leanOf_38 (by decide) (fun c4 => ?_) (fun c4 => ?_)
    · replace hf := it_t c4 hf
      refine lv_iinc (v := (x5 + 1)) (lv' := [(5, .int (x5 + 1)), (0, .ref (ea E 0)), (2, .int x2), (3, .long x3)]) hx hb dX11_leanOf_44 hl (k := 3) rfl rfl (by decide) rfl (fun ls hl => ?_)
      refine lv_goto (tgt := 19) hx hb dX11_leanOf_47 (by decide) ?_
      exact hr19 x2 x3 (x5 + 1) hf H locs ls hP hS (lv_sub hl [1, 2, 3, 0] rfl)
    · replace hf := it_f c4 hf
      refine lv_iload hx hb dX11_leanOf_41 (lv_at hl 3 rfl) ?_
      cases hf
      exact r_iret C hP hS dX11_leanOf_43
def fX11_leanOf_19 (σ : St) : Nat → Int32 → Int64 → Int32 → Option Int32
  | 0 => fun _ _ _ => none
  | n + 1 => fun x2 x3 x5 => fX11_leanOf_19B σ (fX11_leanOf_19 σ n) x2 x3 x5
theorem b_fX11_leanOf_19 {E : Ev} {l : Launch} {p : Program} {e : Env} {s : State} {m : MethodId} {args : Array Value} {below : List Frame} {meth : Method} {c : Code} (σ : St) (C : CX false E RX11 cX11_leanOf 6 (some .int) p s m args meth c) {rr : Int32} : ∀ (n : Nat) (x2 : Int32) (x3 : Int64) (x5 : Int32), fX11_leanOf_19 σ n x2 x3 x5 = some rr → GW false l (rmD 2) E 6 p e s m args below meth c (MQ below (QI false E rr σ s.heap.size) args s 0 0 (aW false E s.heap.size)) σ 19 [(0, .ref (ea E 0)), (2, .int x2), (3, .long x3), (5, .int x5)] [] := by
  intro n
  induction n with
  | zero => intro x2 x3 x5 hf; have hf : (none : Option _) = some _ := hf; cases hf
  | succ n ih => intro x2 x3 x5 hf; exact b_fX11_leanOf_19B σ C (fX11_leanOf_19 σ n) ih x2 x3 x5 hf
def fX11_leanOf (σ : St) (a0 : Int32) (a1 : Int32) : Option Int32 :=
(if 0 ≤ a0 then
fX11_leanOf_19 σ FU a1 (200 * ((a0 : Int32).toInt64)) 0
else
fX11_leanOf_19 σ FU a1 (200 * (((-a0) : Int32).toInt64)) 0)
set_option maxHeartbeats 4000000 in
theorem c_fX11_leanOf {E : Ev} {l : Launch} (hj : jW false E) (σ : St) (sz : Nat) (a0 : Int32) (a1 : Int32) {rr : Int32} (hf : fX11_leanOf σ a0 a1 = some rr) : Met l yX11_leanOf (Cond.code yX11_leanOf cX11_leanOf 6 (some .int) :: gT) (rmD 2) (va_Pc [.ref (ea E 0), .int a0, .int a1] (preW false E σ sz)) (QI false E rr σ sz) 0 0 (aW false E sz) := by
  refine r_entry (QI false E rr σ) hj (by decide) [.ref (ea E 0), .int a0, .int a1] (Nat.le_of_ble_eq_true rfl) (fun p e s m args below meth c C => ?_)
  intro H locs ls hP hS hl
  have hl : lv_has ls 6 [(0, .ref (ea E 0)), (1, .int a0), (2, .int a1)] := hl
  obtain ⟨hx, hb, hr, hml, hown, hts, hlocks, hK, hX, hj⟩ := id C
  unfold fX11_leanOf at hf
  refine lv_ldc2 (v := 200) hx hb hown (hts _ wm_t1432) dX11_leanOf_0 ?_
  refine lv_iload_n hx hb dX11_leanOf_3 rfl (lv_at hl 1 rfl) ?_
  refine lv_if_ge (tgt := 12) hx hb dX11_leanOf_4 (by decide) (fun c1 => ?_) (fun c1 => ?_)
  · replace hf := it_t c1 hf
    refine lv_iload_n hx hb dX11_leanOf_12 rfl (lv_at hl 1 rfl) ?_
    refine lv_i2l (v := (a0 : Int32).toInt64) hx hb dX11_leanOf_13 rfl ?_
    refine lv_lmul hx hb dX11_leanOf_14 ?_
    refine lv_lstore_n (lv' := [(3, .long (200 * ((a0 : Int32).toInt64))), (0, .ref (ea E 0)), (1, .int a0), (2, .int a1)]) hx hb dX11_leanOf_15 rfl hl (by decide) rfl (fun ls hl => ?_)
    refine lv_iconst (v := 0) hx hb dX11_leanOf_16 (by decide) ?_
    refine lv_istore (lv' := [(5, .int 0), (3, .long (200 * ((a0 : Int32).toInt64))), (0, .ref (ea E 0)), (1, .int a0), (2, .int a1)]) hx hb dX11_leanOf_17 hl (by decide) rfl (fun ls hl => ?_)
    exact b_fX11_leanOf_19 σ C FU a1 (200 * ((a0 : Int32).toInt64)) 0 hf H locs ls hP hS (lv_sub hl [2, 4, 1, 0] rfl)
  · replace hf := it_f c1 hf
    refine lv_iload_n hx hb dX11_leanOf_7 rfl (lv_at hl 1 rfl) ?_
    refine lv_ineg hx hb dX11_leanOf_8 ?_
    refine lv_goto (tgt := 13) hx hb dX11_leanOf_9 (by decide) ?_
    refine lv_i2l (v := ((-a0) : Int32).toInt64) hx hb dX11_leanOf_13 rfl ?_
    refine lv_lmul hx hb dX11_leanOf_14 ?_
    refine lv_lstore_n (lv' := [(3, .long (200 * (((-a0) : Int32).toInt64))), (0, .ref (ea E 0)), (1, .int a0), (2, .int a1)]) hx hb dX11_leanOf_15 rfl hl (by decide) rfl (fun ls hl => ?_)
    refine lv_iconst (v := 0) hx hb dX11_leanOf_16 (by decide) ?_
    refine lv_istore (lv' := [(5, .int 0), (3, .long (200 * (((-a0) : Int32).toInt64))), (0, .ref (ea E 0)), (1, .int a0), (2, .int a1)]) hx hb dX11_leanOf_17 hl (by decide) rfl (fun ls hl => ?_)
    exact b_fX11_leanOf_19 σ C FU a1 (200 * (((-a0) : Int32).toInt64)) 0 hf H locs ls hP hS (lv_sub hl [2, 4, 1, 0] rfl)
def fX11_flows_88 (σ : St) (x6 : Int32) (x7 : Int32) (x8 : Int32) (x9 : Int32) (y0 : Int32) (y1 : Int32) (y2 : Int32) : Option St :=
(if y2 ≤ (y1 + y0) then
(rdK 288 (σ 5) ((x6 + x8) - 1) fun v2 =>
(wrK 288 σ 5 (x7 + x9) v2 fun σ4 =>
(rdK 288 (σ4 6) ((x6 + x8) - 1) fun v6 =>
(wrK 288 σ4 6 (x7 + x9) v6 fun σ8 =>
(rdK 288 (σ8 7) ((x6 + x8) - 1) fun v10 =>
(wrK 288 σ8 7 (x7 + x9) v10 fun σ12 =>
(wrK 288 σ12 8 (x7 + x9) (vp_nar .boolean 1) fun σ14 =>
(wrK 288 σ14 5 ((x6 + x8) - 1) 0 fun σ16 =>
(wrK 288 σ16 6 ((x6 + x8) - 1) 0 fun σ18 =>
(wrK 288 σ18 7 ((x6 + x8) - 1) 0 fun σ20 =>
(wrK 288 σ20 8 ((x6 + x8) - 1) (vp_nar .boolean 0) fun σ22 =>
some σ22)))))))))))
else
some σ)
set_option maxHeartbeats 4000000 in
theorem b_fX11_flows_88 {E : Ev} {l : Launch} {p : Program} {e : Env} {s : State} {m : MethodId} {args : Array Value} {below : List Frame} {meth : Method} {c : Code} (C : CX false E RX11 cX11_flows 10 none p s m args meth c) {sr : St} : ∀ (σ : St) (x6 : Int32) (x7 : Int32) (x8 : Int32) (x9 : Int32) (y0 : Int32) (y1 : Int32) (y2 : Int32), fX11_flows_88 σ x6 x7 x8 x9 y0 y1 y2 = some sr → GW false l (rmD 2) E 10 p e s m args below meth c (MQ below (QV false E sr s.heap.size) args s 0 0 (aW false E s.heap.size)) σ 88 [(0, .ref (ea E 0)), (6, .int x6), (7, .int x7), (8, .int x8), (9, .int x9)] [.int y0, .int y1, .int y2] := by
  intro σ x6 x7 x8 x9 y0 y1 y2 hf H locs ls hP hS hl
  obtain ⟨hx, hb, hr, hml, hown, hts, hlocks, hK, hX, hj⟩ := id C
  unfold fX11_flows_88 at hf
  refine lv_iadd hx hb dX11_flows_88 ?_
  refine lv_icmp_le (tgt := 93) hx hb dX11_flows_89 (by decide) (fun c1 => ?_) (fun c1 => ?_)
  · replace hf := it_t c1 hf
    refine lv_aload_n hx hb dX11_flows_93 rfl (lv_at hl 0 rfl) ?_
    refine r_get (k := 7) (v := .ref (ea E 5)) C hP oM_0 rfl iX11 (by decide) wm_t1024 rfl rfl dX11_flows_94 ?_
    refine lv_iload hx hb dX11_flows_97 (lv_at hl 2 rfl) ?_
    refine lv_iload hx hb dX11_flows_99 (lv_at hl 4 rfl) ?_
    refine lv_iadd hx hb dX11_flows_101 ?_
    refine lv_aload_n hx hb dX11_flows_102 rfl (lv_at hl 0 rfl) ?_
    refine r_get (k := 7) (v := .ref (ea E 5)) C hP oM_0 rfl iX11 (by decide) wm_t1024 rfl rfl dX11_flows_103 ?_
    refine lv_iload hx hb dX11_flows_106 (lv_at hl 1 rfl) ?_
    refine lv_iload hx hb dX11_flows_108 (lv_at hl 3 rfl) ?_
    refine lv_iadd hx hb dX11_flows_110 ?_
    refine lv_iconst (v := 1) hx hb dX11_flows_111 (by decide) ?_
    refine lv_isub hx hb dX11_flows_112 ?_
    have h3 := (rdK_e hf).1
    refine r_ald C hP aM_5 h3 dX11_flows_113 ?_
    refine lv_topi (fun v2 ev2 => ?_)
    replace hf := rdK_n ev2 hf
    obtain ⟨h5, σ4, eσ4, hf⟩ := wrK_e hf
    refine r_ast C hP hS aM_5 h5 dX11_flows_114 (fun H locs hP hS => ?_)
    rw [← eσ4] at hP
    refine lv_aload_n hx hb dX11_flows_115 rfl (lv_at hl 0 rfl) ?_
    refine r_get (k := 8) (v := .ref (ea E 6)) C hP oM_0 rfl iX11 (by decide) wm_t1025 rfl rfl dX11_flows_116 ?_
    refine lv_iload hx hb dX11_flows_119 (lv_at hl 2 rfl) ?_
    refine lv_iload hx hb dX11_flows_121 (lv_at hl 4 rfl) ?_
    refine lv_iadd hx hb dX11_flows_123 ?_
    refine lv_aload_n hx hb dX11_flows_124 rfl (lv_at hl 0 rfl) ?_
    refine r_get (k := 8) (v := .ref (ea E 6)) C hP oM_0 rfl iX11 (by decide) wm_t1025 rfl rfl dX11_flows_125 ?_
    refine lv_iload hx hb dX11_flows_128 (lv_at hl 1 rfl) ?_
    refine lv_iload hx hb dX11_flows_130 (lv_at hl 3 rfl) ?_
    refine lv_iadd hx hb dX11_flows_132 ?_
    refine lv_iconst (v := 1) hx hb dX11_flows_133 (by decide) ?_
    refine lv_isub hx hb dX11_flows_134 ?_
    have h7 := (rdK_e hf).1
    refine r_ald C hP aM_6 h7 dX11_flows_135 ?_
    refine lv_topi (fun v6 ev6 => ?_)
    replace hf := rdK_n ev6 hf
    obtain ⟨h9, σ8, eσ8, hf⟩ := wrK_e hf
    refine r_ast C hP hS aM_6 h9 dX11_flows_136 (fun H locs hP hS => ?_)
    rw [← eσ8] at hP
    refine lv_aload_n hx hb dX11_flows_137 rfl (lv_at hl 0 rfl) ?_
    refine r_get (k := 9) (v := .ref (ea E 7)) C hP oM_0 rfl iX11 (by decide) wm_t1026 rfl rfl dX11_flows_138 ?_
    refine lv_iload hx hb dX11_flows_141 (lv_at hl 2 rfl) ?_
    refine lv_iload hx hb dX11_flows_143 (lv_at hl 4 rfl) ?_
    refine lv_iadd hx hb dX11_flows_145 ?_
    refine lv_aload_n hx hb dX11_flows_146 rfl (lv_at hl 0 rfl) ?_
    refine r_get (k := 9) (v := .ref (ea E 7)) C hP oM_0 rfl iX11 (by decide) wm_t1026 rfl rfl dX11_flows_147 ?_
    refine lv_iload hx hb dX11_flows_150 (lv_at hl 1 rfl) ?_
    refine lv_iload hx hb dX11_flows_152 (lv_at hl 3 rfl) ?_
    refine lv_iadd hx hb dX11_flows_154 ?_
    refine lv_iconst (v := 1) hx hb dX11_flows_155 (by decide) ?_
    refine lv_isub hx hb dX11_flows_156 ?_
    have h11 := (rdK_e hf).1
    refine r_ald C hP aM_7 h11 dX11_flows_157 ?_
    refine lv_topi (fun v10 ev10 => ?_)
    replace hf := rdK_n ev10 hf
    obtain ⟨h13, σ12, eσ12, hf⟩ := wrK_e hf
    refine r_ast C hP hS aM_7 h13 dX11_flows_158 (fun H locs hP hS => ?_)
    rw [← eσ12] at hP
    refine lv_aload_n hx hb dX11_flows_159 rfl (lv_at hl 0 rfl) ?_
    refine r_get (k := 10) (v := .ref (ea E 8)) C hP oM_0 rfl iX11 (by decide) wm_t1027 rfl rfl dX11_flows_160 ?_
    refine lv_iload hx hb dX11_flows_163 (lv_at hl 2 rfl) ?_
    refine lv_iload hx hb dX11_flows_165 (lv_at hl 4 rfl) ?_
    refine lv_iadd hx hb dX11_flows_167 ?_
    refine lv_iconst (v := 1) hx hb dX11_flows_168 (by decide) ?_
    obtain ⟨h15, σ14, eσ14, hf⟩ := wrK_e hf
    refine r_zast C hP hS aM_8 h15 dX11_flows_169 (fun H locs hP hS => ?_)
    rw [← eσ14] at hP
    refine lv_aload_n hx hb dX11_flows_170 rfl (lv_at hl 0 rfl) ?_
    refine r_get (k := 7) (v := .ref (ea E 5)) C hP oM_0 rfl iX11 (by decide) wm_t1024 rfl rfl dX11_flows_171 ?_
    refine lv_iload hx hb dX11_flows_174 (lv_at hl 1 rfl) ?_
    refine lv_iload hx hb dX11_flows_176 (lv_at hl 3 rfl) ?_
    refine lv_iadd hx hb dX11_flows_178 ?_
    refine lv_iconst (v := 1) hx hb dX11_flows_179 (by decide) ?_
    refine lv_isub hx hb dX11_flows_180 ?_
    refine lv_iconst (v := 0) hx hb dX11_flows_181 (by decide) ?_
    obtain ⟨h17, σ16, eσ16, hf⟩ := wrK_e hf
    refine r_ast C hP hS aM_5 h17 dX11_flows_182 (fun H locs hP hS => ?_)
    rw [← eσ16] at hP
    refine lv_aload_n hx hb dX11_flows_183 rfl (lv_at hl 0 rfl) ?_
    refine r_get (k := 8) (v := .ref (ea E 6)) C hP oM_0 rfl iX11 (by decide) wm_t1025 rfl rfl dX11_flows_184 ?_
    refine lv_iload hx hb dX11_flows_187 (lv_at hl 1 rfl) ?_
    refine lv_iload hx hb dX11_flows_189 (lv_at hl 3 rfl) ?_
    refine lv_iadd hx hb dX11_flows_191 ?_
    refine lv_iconst (v := 1) hx hb dX11_flows_192 (by decide) ?_
    refine lv_isub hx hb dX11_flows_193 ?_
    refine lv_iconst (v := 0) hx hb dX11_flows_194 (by decide) ?_
    obtain ⟨h19, σ18, eσ18, hf⟩ := wrK_e hf
    refine r_ast C hP hS aM_6 h19 dX11_flows_195 (fun H locs hP hS => ?_)
    rw [← eσ18] at hP
    refine lv_aload_n hx hb dX11_flows_196 rfl (lv_at hl 0 rfl) ?_
    refine r_get (k := 9) (v := .ref (ea E 7)) C hP oM_0 rfl iX11 (by decide) wm_t1026 rfl rfl dX11_flows_197 ?_
    refine lv_iload hx hb dX11_flows_200 (lv_at hl 1 rfl) ?_
    refine lv_iload hx hb dX11_flows_202 (lv_at hl 3 rfl) ?_
    refine lv_iadd hx hb dX11_flows_204 ?_
    refine lv_iconst (v := 1) hx hb dX11_flows_205 (by decide) ?_
    refine lv_isub hx hb dX11_flows_206 ?_
    refine lv_iconst (v := 0) hx hb dX11_flows_207 (by decide) ?_
    obtain ⟨h21, σ20, eσ20, hf⟩ := wrK_e hf
    refine r_ast C hP hS aM_7 h21 dX11_flows_208 (fun H locs hP hS => ?_)
    rw [← eσ20] at hP
    refine lv_aload_n hx hb dX11_flows_209 rfl (lv_at hl 0 rfl) ?_
    refine r_get (k := 10) (v := .ref (ea E 8)) C hP oM_0 rfl iX11 (by decide) wm_t1027 rfl rfl dX11_flows_210 ?_
    refine lv_iload hx hb dX11_flows_213 (lv_at hl 1 rfl) ?_
    refine lv_iload hx hb dX11_flows_215 (lv_at hl 3 rfl) ?_
    refine lv_iadd hx hb dX11_flows_217 ?_
    refine lv_iconst (v := 1) hx hb dX11_flows_218 (by decide) ?_
    refine lv_isub hx hb dX11_flows_219 ?_
    refine lv_iconst (v := 0) hx hb dX11_flows_220 (by decide) ?_
    obtain ⟨h23, σ22, eσ22, hf⟩ := wrK_e hf
    refine r_zast C hP hS aM_8 h23 dX11_flows_221 (fun H locs hP hS => ?_)
    rw [← eσ22] at hP
    cases hf
    exact r_vret C hP hS dX11_flows_222
  · replace hf := it_f c1 hf
    cases hf
    exact r_vret C hP hS dX11_flows_92
def fX11_flows (σ : St) (a0 : Int32) (a1 : Int32) (a2 : Int32) (a3 : Int32) (a4 : Int32) : Option St :=
(nm ((((144 * a0) + (36 * a1)) + (6 * a2)) + (6 * a3)) fun v1 =>
(cq (fX11_height σ (((144 * a0) + (36 * a1)) + (6 * a2))) fun r2 =>
(cq (fX11_height σ v1) fun r4 =>
(if r2 = 0 then
some σ
else
(if r4 = 6 then
some σ
else
(rdK 288 (σ 8) (((((144 * a0) + (36 * a1)) + (6 * a2)) + r2) - 1) fun v8 =>
(if v8 = 0 then
some σ
else
(if a4 < 10 then
fX11_flows_88 σ (((144 * a0) + (36 * a1)) + (6 * a2)) v1 r2 r4 0 (r2 - 1) r4
else
fX11_flows_88 σ (((144 * a0) + (36 * a1)) + (6 * a2)) v1 r2 r4 1 (r2 - 1) r4))))))))
set_option maxHeartbeats 4000000 in
theorem c_fX11_flows {E : Ev} {l : Launch} (hj : jW false E) (σ : St) (sz : Nat) (a0 : Int32) (a1 : Int32) (a2 : Int32) (a3 : Int32) (a4 : Int32) {sr : St} (hf : fX11_flows σ a0 a1 a2 a3 a4 = some sr) : Met l yX11_flows (Cond.code yX11_flows cX11_flows 10 none :: gT) (rmD 2) (va_Pc [.ref (ea E 0), .int a0, .int a1, .int a2, .int a3, .int a4] (preW false E σ sz)) (QV false E sr sz) 0 0 (aW false E sz) := by
  refine r_entry (QV false E sr) hj (by decide) [.ref (ea E 0), .int a0, .int a1, .int a2, .int a3, .int a4] (Nat.le_of_ble_eq_true rfl) (fun p e s m args below meth c C => ?_)
  intro H locs ls hP hS hl
  have hl : lv_has ls 10 [(0, .ref (ea E 0)), (1, .int a0), (2, .int a1), (3, .int a2), (4, .int a3), (5, .int a4)] := hl
  obtain ⟨hx, hb, hr, hml, hown, hts, hlocks, hK, hX, hj⟩ := id C
  unfold fX11_flows at hf
  refine lv_sipush (v := 144) hx hb dX11_flows_0 (by decide) ?_
  refine lv_iload_n hx hb dX11_flows_3 rfl (lv_at hl 1 rfl) ?_
  refine lv_imul hx hb dX11_flows_4 ?_
  refine lv_bipush (v := 36) hx hb dX11_flows_5 (by decide) ?_
  refine lv_iload_n hx hb dX11_flows_7 rfl (lv_at hl 2 rfl) ?_
  refine lv_imul hx hb dX11_flows_8 ?_
  refine lv_iadd hx hb dX11_flows_9 ?_
  refine lv_bipush (v := 6) hx hb dX11_flows_10 (by decide) ?_
  refine lv_iload_n hx hb dX11_flows_12 rfl (lv_at hl 3 rfl) ?_
  refine lv_imul hx hb dX11_flows_13 ?_
  refine lv_iadd hx hb dX11_flows_14 ?_
  refine lv_istore (lv' := [(6, .int (((144 * a0) + (36 * a1)) + (6 * a2))), (0, .ref (ea E 0)), (1, .int a0), (2, .int a1), (3, .int a2), (4, .int a3), (5, .int a4)]) hx hb dX11_flows_15 hl (by decide) rfl (fun ls hl => ?_)
  refine lv_iload hx hb dX11_flows_17 (lv_at hl 0 rfl) ?_
  refine lv_bipush (v := 6) hx hb dX11_flows_19 (by decide) ?_
  refine lv_iload hx hb dX11_flows_21 (lv_at hl 5 rfl) ?_
  refine lv_imul hx hb dX11_flows_23 ?_
  refine lv_iadd hx hb dX11_flows_24 ?_
  refine lv_topi (fun v1 ev1 => ?_)
  replace hf := nm_i ev1 hf
  refine lv_istore (lv' := [(7, .int v1), (6, .int (((144 * a0) + (36 * a1)) + (6 * a2))), (0, .ref (ea E 0)), (1, .int a0), (2, .int a1), (3, .int a2), (4, .int a3), (5, .int a4)]) hx hb dX11_flows_25 hl (by decide) rfl (fun ls hl => ?_)
  refine lv_aload_n hx hb dX11_flows_27 rfl (lv_at hl 2 rfl) ?_
  refine lv_iload hx hb dX11_flows_28 (lv_at hl 1 rfl) ?_
  obtain ⟨r2, hc3, hf⟩ := cq_e hf
  refine r_cVi (n := 1) (As := [.int (((144 * a0) + (36 * a1)) + (6 * a2))]) (rest := []) C (c_fX11_height hj σ H.size (((144 * a0) + (36 * a1)) + (6 * a2)) hc3) oM_0 rfl gv_RX11_320 (by decide +kernel) (rmD_le (by decide) (by decide)) rfl rfl (Nat.le_of_ble_eq_true rfl) dX11_flows_30 hP hS hl.1 (fun H locs hP hS => ?_)
  refine lv_istore (lv' := [(8, .int r2), (7, .int v1), (6, .int (((144 * a0) + (36 * a1)) + (6 * a2))), (0, .ref (ea E 0)), (1, .int a0), (2, .int a1), (3, .int a2), (4, .int a3), (5, .int a4)]) hx hb dX11_flows_33 hl (by decide) rfl (fun ls hl => ?_)
  refine lv_aload_n hx hb dX11_flows_35 rfl (lv_at hl 3 rfl) ?_
  refine lv_iload hx hb dX11_flows_36 (lv_at hl 1 rfl) ?_
  obtain ⟨r4, hc5, hf⟩ := cq_e hf
  refine r_cVi (n := 1) (As := [.int v1]) (rest := []) C (c_fX11_height hj σ H.size v1 hc5) oM_0 rfl gv_RX11_320 (by decide +kernel) (rmD_le (by decide) (by decide)) rfl rfl (Nat.le_of_ble_eq_true rfl) dX11_flows_38 hP hS hl.1 (fun H locs hP hS => ?_)
  refine lv_istore (lv' := [(9, .int r4), (8, .int r2), (7, .int v1), (6, .int (((144 * a0) + (36 * a1)) + (6 * a2))), (0, .ref (ea E 0)), (1, .int a0), (2, .int a1), (3, .int a2), (4, .int a3), (5, .int a4)]) hx hb dX11_flows_41 hl (by decide) rfl (fun ls hl => ?_)
  refine lv_iload hx hb dX11_flows_43 (lv_at hl 1 rfl) ?_
  refine lv_if_eq (tgt := 92) hx hb dX11_flows_45 (by decide) (fun c6 => ?_) (fun c6 => ?_)
  · replace hf := it_t c6 hf
    cases hf
    exact r_vret C hP hS dX11_flows_92
  · replace hf := it_f c6 hf
    refine lv_iload hx hb dX11_flows_48 (lv_at hl 0 rfl) ?_
    refine lv_bipush (v := 6) hx hb dX11_flows_50 (by decide) ?_
    refine lv_icmp_eq (tgt := 92) hx hb dX11_flows_52 (by decide) (fun c7 => ?_) (fun c7 => ?_)
    · replace hf := it_t c7 hf
      cases hf
      exact r_vret C hP hS dX11_flows_92
    · replace hf := it_f c7 hf
      refine lv_aload_n hx hb dX11_flows_55 rfl (lv_at hl 4 rfl) ?_
      refine r_get (k := 10) (v := .ref (ea E 8)) C hP oM_0 rfl iX11 (by decide) wm_t1027 rfl rfl dX11_flows_56 ?_
      refine lv_iload hx hb dX11_flows_59 (lv_at hl 3 rfl) ?_
      refine lv_iload hx hb dX11_flows_61 (lv_at hl 1 rfl) ?_
      refine lv_iadd hx hb dX11_flows_63 ?_
      refine lv_iconst (v := 1) hx hb dX11_flows_64 (by decide) ?_
      refine lv_isub hx hb dX11_flows_65 ?_
      have h9 := (rdK_e hf).1
      refine r_zald C hP aM_8 h9 dX11_flows_66 ?_
      refine lv_topi (fun v8 ev8 => ?_)
      replace hf := rdK_n ev8 hf
      refine lv_if_eq (tgt := 92) hx hb dX11_flows_67 (by decide) (fun c10 => ?_) (fun c10 => ?_)
      · replace hf := it_t c10 hf
        cases hf
        exact r_vret C hP hS dX11_flows_92
      · replace hf := it_f c10 hf
        refine lv_iload hx hb dX11_flows_70 (lv_at hl 0 rfl) ?_
        refine lv_iload hx hb dX11_flows_72 (lv_at hl 1 rfl) ?_
        refine lv_iconst (v := 1) hx hb dX11_flows_74 (by decide) ?_
        refine lv_isub hx hb dX11_flows_75 ?_
        refine lv_iload hx hb dX11_flows_76 (lv_at hl 9 rfl) ?_
        refine lv_bipush (v := 10) hx hb dX11_flows_78 (by decide) ?_
        refine lv_icmp_lt (tgt := 87) hx hb dX11_flows_80 (by decide) (fun c11 => ?_) (fun c11 => ?_)
        · replace hf := it_t c11 hf
          refine lv_iconst (v := 0) hx hb dX11_flows_87 (by decide) ?_
          exact b_fX11_flows_88 C σ (((144 * a0) + (36 * a1)) + (6 * a2)) v1 r2 r4 0 (r2 - 1) r4 hf H locs ls hP hS (lv_sub hl [4, 3, 2, 1, 0] rfl)
        · replace hf := it_f c11 hf
          refine lv_iconst (v := 1) hx hb dX11_flows_83 (by decide) ?_
          refine lv_goto (tgt := 88) hx hb dX11_flows_84 (by decide) ?_
          exact b_fX11_flows_88 C σ (((144 * a0) + (36 * a1)) + (6 * a2)) v1 r2 r4 1 (r2 - 1) r4 hf H locs ls hP hS (lv_sub hl [4, 3, 2, 1, 0] rfl)
def fX11_shipHour_209 (rec184 : St → Int32 → Int32 → Int32 → Int32 → Int32 → Option St) (σ : St) (x1 : Int32) (x4 : Int32) (x5 : Int32) (x6 : Int32) (x7 : Int32) (y0 : Int32) (y1 : Int32) (y2 : Int32) : Option St :=
(cv (fX11_flows σ y2 y1 y0 x5 x4) fun σ2 =>
rec184 σ2 x1 x4 x5 x6 (x7 + 1))
set_option maxHeartbeats 4000000 in
theorem b_fX11_shipHour_209 {E : Ev} {l : Launch} {p : Program} {e : Env} {s : State} {m : MethodId} {args : Array Value} {below : List Frame} {meth : Method} {c : Code} (C : CX false E RX11 cX11_shipHour 8 none p s m args meth c) {sr : St} (rec184 : St → Int32 → Int32 → Int32 → Int32 → Int32 → Option St) (hr184 : ∀ (σ : St) (x1 : Int32) (x4 : Int32) (x5 : Int32) (x6 : Int32) (x7 : Int32), rec184 σ x1 x4 x5 x6 x7 = some sr → GW false l (rmD 5) E 8 p e s m args below meth c (MQ below (QV false E sr s.heap.size) args s 0 0 (aW false E s.heap.size)) σ 184 [(0, .ref (ea E 0)), (1, .int x1), (4, .int x4), (5, .int x5), (6, .int x6), (7, .int x7)] []) : ∀ (σ : St) (x1 : Int32) (x4 : Int32) (x5 : Int32) (x6 : Int32) (x7 : Int32) (y0 : Int32) (y1 : Int32) (y2 : Int32), fX11_shipHour_209 rec184 σ x1 x4 x5 x6 x7 y0 y1 y2 = some sr → GW false l (rmD 5) E 8 p e s m args below meth c (MQ below (QV false E sr s.heap.size) args s 0 0 (aW false E s.heap.size)) σ 209 [(0, .ref (ea E 0)), (1, .int x1), (4, .int x4), (5, .int x5), (6, .int x6), (7, .int x7)] [.int y0, .int y1, .int y2, .ref (ea E 0)] := by
  intro σ x1 x4 x5 x6 x7 y0 y1 y2 hf H locs ls hP hS hl
  obtain ⟨hx, hb, hr, hml, hown, hts, hlocks, hK, hX, hj⟩ := id C
  unfold fX11_shipHour_209 at hf
  refine lv_iload hx hb dX11_shipHour_209 (lv_at hl 3 rfl) ?_
  refine lv_iload hx hb dX11_shipHour_211 (lv_at hl 2 rfl) ?_
  obtain ⟨σ2, hc1, hf⟩ := cv_e hf
  refine r_cVv (n := 5) (As := [.int y2, .int y1, .int y0, .int x5, .int x4]) (rest := []) C (c_fX11_flows hj σ H.size y2 y1 y0 x5 x4 hc1) oM_0 rfl gv_RX11_340 (by decide +kernel) (rmD_le (by decide) (by decide)) rfl rfl (Nat.le_of_ble_eq_true rfl) dX11_shipHour_213 hP hS hl.1 (fun H locs hP hS => ?_)
  refine lv_iinc (v := (x7 + 1)) (lv' := [(7, .int (x7 + 1)), (0, .ref (ea E 0)), (1, .int x1), (4, .int x4), (5, .int x5), (6, .int x6)]) hx hb dX11_shipHour_216 hl (k := 5) rfl rfl (by decide) rfl (fun ls hl => ?_)
  refine lv_goto (tgt := 184) hx hb dX11_shipHour_219 (by decide) ?_
  exact hr184 σ2 x1 x4 x5 x6 (x7 + 1) hf H locs ls hP hS (lv_sub hl [1, 2, 3, 4, 5, 0] rfl)
def fX11_shipHour_184B (rec170 : St → Int32 → Int32 → Int32 → Int32 → Option St) (rec184 : St → Int32 → Int32 → Int32 → Int32 → Int32 → Option St) (σ : St) (x1 : Int32) (x4 : Int32) (x5 : Int32) (x6 : Int32) (x7 : Int32) : Option St :=
(if 6 ≤ x7 then
rec170 σ x1 x4 x5 (x6 + 1)
else
(if x5 ≤ 0 then
fX11_shipHour_209 rec184 σ x1 x4 x5 x6 x7 x7 x6 x1
else
fX11_shipHour_209 rec184 σ x1 x4 x5 x6 x7 (5 - x7) x6 x1))
set_option maxHeartbeats 4000000 in
theorem b_fX11_shipHour_184B {E : Ev} {l : Launch} {p : Program} {e : Env} {s : State} {m : MethodId} {args : Array Value} {below : List Frame} {meth : Method} {c : Code} (C : CX false E RX11 cX11_shipHour 8 none p s m args meth c) {sr : St} (rec170 : St → Int32 → Int32 → Int32 → Int32 → Option St) (hr170 : ∀ (σ : St) (x1 : Int32) (x4 : Int32) (x5 : Int32) (x6 : Int32), rec170 σ x1 x4 x5 x6 = some sr → GW false l (rmD 5) E 8 p e s m args below meth c (MQ below (QV false E sr s.heap.size) args s 0 0 (aW false E s.heap.size)) σ 170 [(0, .ref (ea E 0)), (1, .int x1), (4, .int x4), (5, .int x5), (6, .int x6)] []) (rec184 : St → Int32 → Int32 → Int32 → Int32 → Int32 → Option St) (hr184 : ∀ (σ : St) (x1 : Int32) (x4 : Int32) (x5 : Int32) (x6 : Int32) (x7 : Int32), rec184 σ x1 x4 x5 x6 x7 = some sr → GW false l (rmD 5) E 8 p e s m args below meth c (MQ below (QV false E sr s.heap.size) args s 0 0 (aW false E s.heap.size)) σ 184 [(0, .ref (ea E 0)), (1, .int x1), (4, .int x4), (5, .int x5), (6, .int x6), (7, .int x7)] []) : ∀ (σ : St) (x1 : Int32) (x4 : Int32) (x5 : Int32) (x6 : Int32) (x7 : Int32), fX11_shipHour_184B rec170 rec184 σ x1 x4 x5 x6 x7 = some sr → GW false l (rmD 5) E 8 p e s m args below meth c (MQ below (QV false E sr s.heap.size) args s 0 0 (aW false E s.heap.size)) σ 184 [(0, .ref (ea E 0)), (1, .int x1), (4, .int x4), (5, .int x5), (6, .int x6), (7, .int x7)] [] := by
  intro σ x1 x4 x5 x6 x7 hf H locs ls hP hS hl
  obtain ⟨hx, hb, hr, hml, hown, hts, hlocks, hK, hX, hj⟩ := id C
  unfold fX11_shipHour_184B at hf
  refine lv_iload hx hb dX11_shipHour_184 (lv_at hl 5 rfl) ?_
  refine lv_bipush (v := 6) hx hb dX11_shipHour_186 (by decide) ?_
  refine lv_icmp_ge (tgt := 222) hx hb dX11_shipHour_188 (by decide) (fun c1 => ?_) (fun c1 => ?_)
  · replace hf := it_t c1 hf
    refine lv_iinc (v := (x6 + 1)) (lv' := [(6, .int (x6 + 1)), (0, .ref (ea E 0)), (1, .int x1), (4, .int x4), (5, .int x5), (7, .int x7)]) hx hb dX11_shipHour_222 hl (k := 4) rfl rfl (by decide) rfl (fun ls hl => ?_)
    refine lv_goto (tgt := 170) hx hb dX11_shipHour_225 (by decide) ?_
    exact hr170 σ x1 x4 x5 (x6 + 1) hf H locs ls hP hS (lv_sub hl [1, 2, 3, 4, 0] rfl)
  · replace hf := it_f c1 hf
    refine lv_aload_n hx hb dX11_shipHour_191 rfl (lv_at hl 0 rfl) ?_
    refine lv_iload_n hx hb dX11_shipHour_192 rfl (lv_at hl 1 rfl) ?_
    refine lv_iload hx hb dX11_shipHour_193 (lv_at hl 4 rfl) ?_
    refine lv_iload hx hb dX11_shipHour_195 (lv_at hl 3 rfl) ?_
    refine lv_if_le (tgt := 207) hx hb dX11_shipHour_197 (by decide) (fun c2 => ?_) (fun c2 => ?_)
    · replace hf := it_t c2 hf
      refine lv_iload hx hb dX11_shipHour_207 (lv_at hl 5 rfl) ?_
      exact b_fX11_shipHour_209 C rec184 hr184 σ x1 x4 x5 x6 x7 x7 x6 x1 hf H locs ls hP hS (lv_sub hl [0, 1, 2, 3, 4, 5] rfl)
    · replace hf := it_f c2 hf
      refine lv_iconst (v := 5) hx hb dX11_shipHour_200 (by decide) ?_
      refine lv_iload hx hb dX11_shipHour_201 (lv_at hl 5 rfl) ?_
      refine lv_isub hx hb dX11_shipHour_203 ?_
      refine lv_goto (tgt := 209) hx hb dX11_shipHour_204 (by decide) ?_
      exact b_fX11_shipHour_209 C rec184 hr184 σ x1 x4 x5 x6 x7 (5 - x7) x6 x1 hf H locs ls hP hS (lv_sub hl [0, 1, 2, 3, 4, 5] rfl)
def fX11_shipHour_184 (rec170 : St → Int32 → Int32 → Int32 → Int32 → Option St) : Nat → St → Int32 → Int32 → Int32 → Int32 → Int32 → Option St
  | 0 => fun _ _ _ _ _ _ => none
  | n + 1 => fun σ x1 x4 x5 x6 x7 => fX11_shipHour_184B rec170 (fX11_shipHour_184 rec170 n) σ x1 x4 x5 x6 x7
theorem b_fX11_shipHour_184 {E : Ev} {l : Launch} {p : Program} {e : Env} {s : State} {m : MethodId} {args : Array Value} {below : List Frame} {meth : Method} {c : Code} (C : CX false E RX11 cX11_shipHour 8 none p s m args meth c) {sr : St} (rec170 : St → Int32 → Int32 → Int32 → Int32 → Option St) (hr170 : ∀ (σ : St) (x1 : Int32) (x4 : Int32) (x5 : Int32) (x6 : Int32), rec170 σ x1 x4 x5 x6 = some sr → GW false l (rmD 5) E 8 p e s m args below meth c (MQ below (QV false E sr s.heap.size) args s 0 0 (aW false E s.heap.size)) σ 170 [(0, .ref (ea E 0)), (1, .int x1), (4, .int x4), (5, .int x5), (6, .int x6)] []) : ∀ (n : Nat) (σ : St) (x1 : Int32) (x4 : Int32) (x5 : Int32) (x6 : Int32) (x7 : Int32), fX11_shipHour_184 rec170 n σ x1 x4 x5 x6 x7 = some sr → GW false l (rmD 5) E 8 p e s m args below meth c (MQ below (QV false E sr s.heap.size) args s 0 0 (aW false E s.heap.size)) σ 184 [(0, .ref (ea E 0)), (1, .int x1), (4, .int x4), (5, .int x5), (6, .int x6), (7, .int x7)] [] := by
  intro n
  induction n with
  | zero => intro σ x1 x4 x5 x6 x7 hf; have hf : (none : Option _) = some _ := hf; cases hf
  | succ n ih => intro σ x1 x4 x5 x6 x7 hf; exact b_fX11_shipHour_184B C rec170 hr170 (fX11_shipHour_184 rec170 n) ih σ x1 x4 x5 x6 x7 hf
def fX11_shipHour_170B (rec170 : St → Int32 → Int32 → Int32 → Int32 → Option St) (σ : St) (x1 : Int32) (x4 : Int32) (x5 : Int32) (x6 : Int32) : Option St :=
(if 4 ≤ x6 then
some σ
else
(if x5 = 0 then
some σ
else
fX11_shipHour_184 rec170 FU σ x1 x4 x5 x6 1))
set_option maxHeartbeats 4000000 in
theorem b_fX11_shipHour_170B {E : Ev} {l : Launch} {p : Program} {e : Env} {s : State} {m : MethodId} {args : Array Value} {below : List Frame} {meth : Method} {c : Code} (C : CX false E RX11 cX11_shipHour 8 none p s m args meth c) {sr : St} (rec170 : St → Int32 → Int32 → Int32 → Int32 → Option St) (hr170 : ∀ (σ : St) (x1 : Int32) (x4 : Int32) (x5 : Int32) (x6 : Int32), rec170 σ x1 x4 x5 x6 = some sr → GW false l (rmD 5) E 8 p e s m args below meth c (MQ below (QV false E sr s.heap.size) args s 0 0 (aW false E s.heap.size)) σ 170 [(0, .ref (ea E 0)), (1, .int x1), (4, .int x4), (5, .int x5), (6, .int x6)] []) : ∀ (σ : St) (x1 : Int32) (x4 : Int32) (x5 : Int32) (x6 : Int32), fX11_shipHour_170B rec170 σ x1 x4 x5 x6 = some sr → GW false l (rmD 5) E 8 p e s m args below meth c (MQ below (QV false E sr s.heap.size) args s 0 0 (aW false E s.heap.size)) σ 170 [(0, .ref (ea E 0)), (1, .int x1), (4, .int x4), (5, .int x5), (6, .int x6)] [] := by
  intro σ x1 x4 x5 x6 hf H locs ls hP hS hl
  obtain ⟨hx, hb, hr, hml, hown, hts, hlocks, hK, hX, hj⟩ := id C
  unfold fX11_shipHour_170B at hf
  refine lv_iload hx hb dX11_shipHour_170 (lv_at hl 4 rfl) ?_
  refine lv_iconst (v := 4) hx hb dX11_shipHour_172 (by decide) ?_
  refine lv_icmp_ge (tgt := 228) hx hb dX11_shipHour_173 (by decide) (fun c1 => ?_) (fun c1 => ?_)
  · replace hf := it_t c1 hf
    cases hf
    exact r_vret C hP hS dX11_shipHour_228
  · replace hf := it_f c1 hf
    refine lv_iload hx hb dX11_shipHour_176 (lv_at hl 3 rfl) ?_
    refine lv_if_eq (tgt := 228) hx hb dX11_shipHour_178 (by decide) (fun c2 => ?_) (fun c2 => ?_)
    · replace hf := it_t c2 hf
      cases hf
      exact r_vret C hP hS dX11_shipHour_228
    · replace hf := it_f c2 hf
      refine lv_iconst (v := 1) hx hb dX11_shipHour_181 (by decide) ?_
      refine lv_istore (lv' := [(7, .int 1), (0, .ref (ea E 0)), (1, .int x1), (4, .int x4), (5, .int x5), (6, .int x6)]) hx hb dX11_shipHour_182 hl (by decide) rfl (fun ls hl => ?_)
      exact b_fX11_shipHour_184 C rec170 hr170 FU σ x1 x4 x5 x6 1 hf H locs ls hP hS (lv_sub hl [1, 2, 3, 4, 5, 0] rfl)
def fX11_shipHour_170 : Nat → St → Int32 → Int32 → Int32 → Int32 → Option St
  | 0 => fun _ _ _ _ _ => none
  | n + 1 => fun σ x1 x4 x5 x6 => fX11_shipHour_170B (fX11_shipHour_170 n) σ x1 x4 x5 x6
theorem b_fX11_shipHour_170 {E : Ev} {l : Launch} {p : Program} {e : Env} {s : State} {m : MethodId} {args : Array Value} {below : List Frame} {meth : Method} {c : Code} (C : CX false E RX11 cX11_shipHour 8 none p s m args meth c) {sr : St} : ∀ (n : Nat) (σ : St) (x1 : Int32) (x4 : Int32) (x5 : Int32) (x6 : Int32), fX11_shipHour_170 n σ x1 x4 x5 x6 = some sr → GW false l (rmD 5) E 8 p e s m args below meth c (MQ below (QV false E sr s.heap.size) args s 0 0 (aW false E s.heap.size)) σ 170 [(0, .ref (ea E 0)), (1, .int x1), (4, .int x4), (5, .int x5), (6, .int x6)] [] := by
  intro n
  induction n with
  | zero => intro σ x1 x4 x5 x6 hf; have hf : (none : Option _) = some _ := hf; cases hf
  | succ n ih => intro σ x1 x4 x5 x6 hf; exact b_fX11_shipHour_170B C (fX11_shipHour_170 n) ih σ x1 x4 x5 x6 hf
def fX11_shipHour_109 (σ : St) (x1 : Int32) (x2 : Int32) (x3 : Int32) (x4 : Int32) (y0 : Int32) (y1 : Int32) : Option St :=
(wrK 2 σ 11 y1 y0 fun σ1 =>
(rdK 30 (σ1 2) (x2 / 24) fun v3 =>
(rdK 2 (σ1 10) x1 fun v5 =>
(if (x4 + (v3 * ((v5.toUInt32 >>> ((30 : Int32).toUInt32 &&& Int32.toUInt32 31)).toInt32))) ≤ (σ1 0 45) then
(if x4 = 0 then
fX11_shipHour_170 FU σ1 x1 x4 0 0
else
(if x3 ≤ 0 then
fX11_shipHour_170 FU σ1 x1 x4 (-1) 0
else
fX11_shipHour_170 FU σ1 x1 x4 1 0))
else
(wrK 2 σ1 12 x1 x2 fun σ10 =>
some σ10)))))
set_option maxHeartbeats 4000000 in
theorem b_fX11_shipHour_109 {E : Ev} {l : Launch} {p : Program} {e : Env} {s : State} {m : MethodId} {args : Array Value} {below : List Frame} {meth : Method} {c : Code} (C : CX false E RX11 cX11_shipHour 8 none p s m args meth c) {sr : St} : ∀ (σ : St) (x1 : Int32) (x2 : Int32) (x3 : Int32) (x4 : Int32) (y0 : Int32) (y1 : Int32), fX11_shipHour_109 σ x1 x2 x3 x4 y0 y1 = some sr → GW false l (rmD 5) E 8 p e s m args below meth c (MQ below (QV false E sr s.heap.size) args s 0 0 (aW false E s.heap.size)) σ 109 [(0, .ref (ea E 0)), (1, .int x1), (2, .int x2), (3, .int x3), (4, .int x4)] [.int y0, .int y1, .ref (ea E 11)] := by
  intro σ x1 x2 x3 x4 y0 y1 hf H locs ls hP hS hl
  obtain ⟨hx, hb, hr, hml, hown, hts, hlocks, hK, hX, hj⟩ := id C
  unfold fX11_shipHour_109 at hf
  obtain ⟨h2, σ1, eσ1, hf⟩ := wrK_e hf
  refine r_ast C hP hS aM_11 h2 dX11_shipHour_109 (fun H locs hP hS => ?_)
  rw [← eσ1] at hP
  refine lv_iload hx hb dX11_shipHour_110 (lv_at hl 4 rfl) ?_
  refine lv_aload_n hx hb dX11_shipHour_112 rfl (lv_at hl 0 rfl) ?_
  refine r_get (k := 4) (v := .ref (ea E 2)) C hP oM_0 rfl iX11 (by decide) wm_t1021 rfl rfl dX11_shipHour_113 ?_
  refine lv_iload_n hx hb dX11_shipHour_116 rfl (lv_at hl 2 rfl) ?_
  refine lv_bipush (v := 24) hx hb dX11_shipHour_117 (by decide) ?_
  refine lv_idiv hx hb dX11_shipHour_119 (by decide) ?_
  have h4 := (rdK_e hf).1
  refine r_ald C hP aM_2 h4 dX11_shipHour_120 ?_
  refine lv_topi (fun v3 ev3 => ?_)
  replace hf := rdK_n ev3 hf
  refine lv_aload_n hx hb dX11_shipHour_121 rfl (lv_at hl 0 rfl) ?_
  refine r_get (k := 14) (v := .ref (ea E 10)) C hP oM_0 rfl iX11 (by decide) wm_t1031 rfl rfl dX11_shipHour_122 ?_
  refine lv_iload_n hx hb dX11_shipHour_125 rfl (lv_at hl 1 rfl) ?_
  have h6 := (rdK_e hf).1
  refine r_ald C hP aM_10 h6 dX11_shipHour_126 ?_
  refine lv_topi (fun v5 ev5 => ?_)
  replace hf := rdK_n ev5 hf
  refine lv_bipush (v := 30) hx hb dX11_shipHour_127 (by decide) ?_
  refine lv_iushr (v := (v5.toUInt32 >>> ((30 : Int32).toUInt32 &&& Int32.toUInt32 31)).toInt32) hx hb dX11_shipHour_129 rfl ?_
  refine lv_imul hx hb dX11_shipHour_130 ?_
  refine lv_iadd hx hb dX11_shipHour_131 ?_
  refine lv_aload_n hx hb dX11_shipHour_132 rfl (lv_at hl 0 rfl) ?_
  refine r_get (k := 45) (v := .int (σ1 0 45)) C hP oM_0 rfl iX11 (by decide) wm_t1062 rfl rfl dX11_shipHour_133 ?_
  refine lv_icmp_le (tgt := 147) hx hb dX11_shipHour_136 (by decide) (fun c7 => ?_) (fun c7 => ?_)
  · replace hf := it_t c7 hf
    refine lv_iload hx hb dX11_shipHour_147 (lv_at hl 4 rfl) ?_
    refine lv_if_ne (tgt := 156) hx hb dX11_shipHour_149 (by decide) (fun c8 => ?_) (fun c8 => ?_)
    · replace hf := it_f c8 hf
      refine lv_iload_n hx hb dX11_shipHour_156 rfl (lv_at hl 3 rfl) ?_
      refine lv_if_le (tgt := 164) hx hb dX11_shipHour_157 (by decide) (fun c9 => ?_) (fun c9 => ?_)
      · replace hf := it_t c9 hf
        refine lv_iconst (v := (-1)) hx hb dX11_shipHour_164 (by decide) ?_
        refine lv_istore (lv' := [(5, .int (-1)), (0, .ref (ea E 0)), (1, .int x1), (2, .int x2), (3, .int x3), (4, .int x4)]) hx hb dX11_shipHour_165 hl (by decide) rfl (fun ls hl => ?_)
        refine lv_iconst (v := 0) hx hb dX11_shipHour_167 (by decide) ?_
        refine lv_istore (lv' := [(6, .int 0), (5, .int (-1)), (0, .ref (ea E 0)), (1, .int x1), (2, .int x2), (3, .int x3), (4, .int x4)]) hx hb dX11_shipHour_168 hl (by decide) rfl (fun ls hl => ?_)
        exact b_fX11_shipHour_170 C FU σ1 x1 x4 (-1) 0 hf H locs ls hP hS (lv_sub hl [2, 3, 6, 1, 0] rfl)
      · replace hf := it_f c9 hf
        refine lv_iconst (v := 1) hx hb dX11_shipHour_160 (by decide) ?_
        refine lv_goto (tgt := 165) hx hb dX11_shipHour_161 (by decide) ?_
        refine lv_istore (lv' := [(5, .int 1), (0, .ref (ea E 0)), (1, .int x1), (2, .int x2), (3, .int x3), (4, .int x4)]) hx hb dX11_shipHour_165 hl (by decide) rfl (fun ls hl => ?_)
        refine lv_iconst (v := 0) hx hb dX11_shipHour_167 (by decide) ?_
        refine lv_istore (lv' := [(6, .int 0), (5, .int 1), (0, .ref (ea E 0)), (1, .int x1), (2, .int x2), (3, .int x3), (4, .int x4)]) hx hb dX11_shipHour_168 hl (by decide) rfl (fun ls hl => ?_)
        exact b_fX11_shipHour_170 C FU σ1 x1 x4 1 0 hf H locs ls hP hS (lv_sub hl [2, 3, 6, 1, 0] rfl)
    · replace hf := it_t c8 hf
      refine lv_iconst (v := 0) hx hb dX11_shipHour_152 (by decide) ?_
      refine lv_goto (tgt := 165) hx hb dX11_shipHour_153 (by decide) ?_
      refine lv_istore (lv' := [(5, .int 0), (0, .ref (ea E 0)), (1, .int x1), (2, .int x2), (3, .int x3), (4, .int x4)]) hx hb dX11_shipHour_165 hl (by decide) rfl (fun ls hl => ?_)
      refine lv_iconst (v := 0) hx hb dX11_shipHour_167 (by decide) ?_
      refine lv_istore (lv' := [(6, .int 0), (5, .int 0), (0, .ref (ea E 0)), (1, .int x1), (2, .int x2), (3, .int x3), (4, .int x4)]) hx hb dX11_shipHour_168 hl (by decide) rfl (fun ls hl => ?_)
      exact b_fX11_shipHour_170 C FU σ1 x1 x4 0 0 hf H locs ls hP hS (lv_sub hl [2, 3, 6, 1, 0] rfl)
  · replace hf := it_f c7 hf
    refine lv_aload_n hx hb dX11_shipHour_139 rfl (lv_at hl 0 rfl) ?_
    refine r_get (k := 16) (v := .ref (ea E 12)) C hP oM_0 rfl iX11 (by decide) wm_t1033 rfl rfl dX11_shipHour_140 ?_
    refine lv_iload_n hx hb dX11_shipHour_143 rfl (lv_at hl 1 rfl) ?_
    refine lv_iload_n hx hb dX11_shipHour_144 rfl (lv_at hl 2 rfl) ?_
    obtain ⟨h11, σ10, eσ10, hf⟩ := wrK_e hf
    refine r_ast C hP hS aM_12 h11 dX11_shipHour_145 (fun H locs hP hS => ?_)
    rw [← eσ10] at hP
    cases hf
    exact r_vret C hP hS dX11_shipHour_146
def fX11_shipHour_63 (σ : St) (x1 : Int32) (x2 : Int32) (y0 : Int32) (y1 : Int32) : Option St :=
(wrK 2 σ 11 y1 y0 fun σ1 =>
(wrK 2 σ1 12 x1 x2 fun σ3 =>
some σ3))
set_option maxHeartbeats 4000000 in
theorem b_fX11_shipHour_63 {E : Ev} {l : Launch} {p : Program} {e : Env} {s : State} {m : MethodId} {args : Array Value} {below : List Frame} {meth : Method} {c : Code} (C : CX false E RX11 cX11_shipHour 8 none p s m args meth c) {sr : St} : ∀ (σ : St) (x1 : Int32) (x2 : Int32) (y0 : Int32) (y1 : Int32), fX11_shipHour_63 σ x1 x2 y0 y1 = some sr → GW false l (rmD 5) E 8 p e s m args below meth c (MQ below (QV false E sr s.heap.size) args s 0 0 (aW false E s.heap.size)) σ 63 [(0, .ref (ea E 0)), (1, .int x1), (2, .int x2)] [.int y0, .int y1, .ref (ea E 11)] := by
  intro σ x1 x2 y0 y1 hf H locs ls hP hS hl
  obtain ⟨hx, hb, hr, hml, hown, hts, hlocks, hK, hX, hj⟩ := id C
  unfold fX11_shipHour_63 at hf
  obtain ⟨h2, σ1, eσ1, hf⟩ := wrK_e hf
  refine r_ast C hP hS aM_11 h2 dX11_shipHour_63 (fun H locs hP hS => ?_)
  rw [← eσ1] at hP
  refine lv_aload_n hx hb dX11_shipHour_64 rfl (lv_at hl 0 rfl) ?_
  refine r_get (k := 16) (v := .ref (ea E 12)) C hP oM_0 rfl iX11 (by decide) wm_t1033 rfl rfl dX11_shipHour_65 ?_
  refine lv_iload_n hx hb dX11_shipHour_68 rfl (lv_at hl 1 rfl) ?_
  refine lv_iload_n hx hb dX11_shipHour_69 rfl (lv_at hl 2 rfl) ?_
  obtain ⟨h4, σ3, eσ3, hf⟩ := wrK_e hf
  refine r_ast C hP hS aM_12 h4 dX11_shipHour_70 (fun H locs hP hS => ?_)
  rw [← eσ3] at hP
  cases hf
  exact r_vret C hP hS dX11_shipHour_71
def fX11_shipHour (σ : St) (a0 : Int32) (a1 : Int32) : Option St :=
(rdK 2 (σ 12) a0 fun v1 =>
(if v1 = (-1) then
(cv (fX11_shakes σ a0 a1) fun σ5 =>
(cv (fX11_shipWater σ5 a0 a1) fun σ7 =>
(cq (fX11_momentOf σ7 a0) fun r8 =>
(cq (fX11_weightOf σ7 a0) fun r10 =>
(cq (fX11_leanOf σ7 r8 r10) fun r12 =>
(if r12 = (-1) then
(if r8 ≤ 0 then
fX11_shipHour_63 σ7 a0 a1 (-61) a0
else
fX11_shipHour_63 σ7 a0 a1 61 a0)
else
(rdK 2 (σ7 10) a0 fun v15 =>
(wrK 2 σ7 10 a0 ((1664525 * v15) + 1013904223) fun σ17 =>
(if r8 ≤ 0 then
fX11_shipHour_109 σ17 a0 a1 r8 r12 (-r12) a0
else
fX11_shipHour_109 σ17 a0 a1 r8 r12 r12 a0)))))))))
else
some σ))
set_option maxHeartbeats 4000000 in
theorem c_fX11_shipHour {E : Ev} {l : Launch} (hj : jW false E) (σ : St) (sz : Nat) (a0 : Int32) (a1 : Int32) {sr : St} (hf : fX11_shipHour σ a0 a1 = some sr) : Met l yX11_shipHour (Cond.code yX11_shipHour cX11_shipHour 8 none :: gT) (rmD 5) (va_Pc [.ref (ea E 0), .int a0, .int a1] (preW false E σ sz)) (QV false E sr sz) 0 0 (aW false E sz) := by
  refine r_entry (QV false E sr) hj (by decide) [.ref (ea E 0), .int a0, .int a1] (Nat.le_of_ble_eq_true rfl) (fun p e s m args below meth c C => ?_)
  intro H locs ls hP hS hl
  have hl : lv_has ls 8 [(0, .ref (ea E 0)), (1, .int a0), (2, .int a1)] := hl
  obtain ⟨hx, hb, hr, hml, hown, hts, hlocks, hK, hX, hj⟩ := id C
  unfold fX11_shipHour at hf
  refine lv_aload_n hx hb dX11_shipHour_0 rfl (lv_at hl 0 rfl) ?_
  refine r_get (k := 16) (v := .ref (ea E 12)) C hP oM_0 rfl iX11 (by decide) wm_t1033 rfl rfl dX11_shipHour_1 ?_
  refine lv_iload_n hx hb dX11_shipHour_4 rfl (lv_at hl 1 rfl) ?_
  have h2 := (rdK_e hf).1
  refine r_ald C hP aM_12 h2 dX11_shipHour_5 ?_
  refine lv_topi (fun v1 ev1 => ?_)
  replace hf := rdK_n ev1 hf
  refine lv_iconst (v := (-1)) hx hb dX11_shipHour_6 (by decide) ?_
  refine lv_icmp_eq (tgt := 11) hx hb dX11_shipHour_7 (by decide) (fun c3 => ?_) (fun c3 => ?_)
  · replace hf := it_t c3 hf
    refine lv_aload_n hx hb dX11_shipHour_11 rfl (lv_at hl 0 rfl) ?_
    refine lv_iload_n hx hb dX11_shipHour_12 rfl (lv_at hl 1 rfl) ?_
    refine lv_iload_n hx hb dX11_shipHour_13 rfl (lv_at hl 2 rfl) ?_
    obtain ⟨σ5, hc4, hf⟩ := cv_e hf
    refine r_cVv (n := 2) (As := [.int a0, .int a1]) (rest := []) C (c_fX11_shakes hj σ H.size a0 a1 hc4) oM_0 rfl gv_RX11_323 (by decide +kernel) (rmD_le (by decide) (by decide)) rfl rfl (Nat.le_of_ble_eq_true rfl) dX11_shipHour_14 hP hS hl.1 (fun H locs hP hS => ?_)
    refine lv_aload_n hx hb dX11_shipHour_17 rfl (lv_at hl 0 rfl) ?_
    refine lv_iload_n hx hb dX11_shipHour_18 rfl (lv_at hl 1 rfl) ?_
    refine lv_iload_n hx hb dX11_shipHour_19 rfl (lv_at hl 2 rfl) ?_
    obtain ⟨σ7, hc6, hf⟩ := cv_e hf
    refine r_cVv (n := 2) (As := [.int a0, .int a1]) (rest := []) C (c_fX11_shipWater hj σ5 H.size a0 a1 hc6) oM_0 rfl gv_RX11_326 (by decide +kernel) (rmD_le (by decide) (by decide)) rfl rfl (Nat.le_of_ble_eq_true rfl) dX11_shipHour_20 hP hS hl.1 (fun H locs hP hS => ?_)
    refine lv_aload_n hx hb dX11_shipHour_23 rfl (lv_at hl 0 rfl) ?_
    refine lv_iload_n hx hb dX11_shipHour_24 rfl (lv_at hl 1 rfl) ?_
    obtain ⟨r8, hc9, hf⟩ := cq_e hf
    refine r_cVi (n := 1) (As := [.int a0]) (rest := []) C (c_fX11_momentOf hj σ7 H.size a0 hc9) oM_0 rfl gv_RX11_329 (by decide +kernel) (rmD_le (by decide) (by decide)) rfl rfl (Nat.le_of_ble_eq_true rfl) dX11_shipHour_25 hP hS hl.1 (fun H locs hP hS => ?_)
    refine lv_istore_n (lv' := [(3, .int r8), (0, .ref (ea E 0)), (1, .int a0), (2, .int a1)]) hx hb dX11_shipHour_28 rfl hl (by decide) rfl (fun ls hl => ?_)
    refine lv_aload_n hx hb dX11_shipHour_29 rfl (lv_at hl 1 rfl) ?_
    refine lv_iload_n hx hb dX11_shipHour_30 rfl (lv_at hl 0 rfl) ?_
    refine lv_aload_n hx hb dX11_shipHour_31 rfl (lv_at hl 1 rfl) ?_
    refine lv_iload_n hx hb dX11_shipHour_32 rfl (lv_at hl 2 rfl) ?_
    obtain ⟨r10, hc11, hf⟩ := cq_e hf
    refine r_cVi (n := 1) (As := [.int a0]) (rest := [.int r8, .ref (ea E 0)]) C (c_fX11_weightOf hj σ7 H.size a0 hc11) oM_0 rfl gv_RX11_332 (by decide +kernel) (rmD_le (by decide) (by decide)) rfl rfl (Nat.le_of_ble_eq_true rfl) dX11_shipHour_33 hP hS hl.1 (fun H locs hP hS => ?_)
    obtain ⟨r12, hc13, hf⟩ := cq_e hf
    refine r_cVi (n := 2) (As := [.int r8, .int r10]) (rest := []) C (c_fX11_leanOf hj σ7 H.size r8 r10 hc13) oM_0 rfl gv_RX11_335 (by decide +kernel) (rmD_le (by decide) (by decide)) rfl rfl (Nat.le_of_ble_eq_true rfl) dX11_shipHour_36 hP hS hl.1 (fun H locs hP hS => ?_)
    refine lv_istore (lv' := [(4, .int r12), (3, .int r8), (0, .ref (ea E 0)), (1, .int a0), (2, .int a1)]) hx hb dX11_shipHour_39 hl (by decide) rfl (fun ls hl => ?_)
    refine lv_iload hx hb dX11_shipHour_41 (lv_at hl 0 rfl) ?_
    refine lv_iconst (v := (-1)) hx hb dX11_shipHour_43 (by decide) ?_
    refine lv_icmp_ne (tgt := 72) hx hb dX11_shipHour_44 (by decide) (fun c14 => ?_) (fun c14 => ?_)
    · replace hf := it_f c14 hf
      refine lv_aload_n hx hb dX11_shipHour_72 rfl (lv_at hl 2 rfl) ?_
      refine r_get (k := 14) (v := .ref (ea E 10)) C hP oM_0 rfl iX11 (by decide) wm_t1031 rfl rfl dX11_shipHour_73 ?_
      refine lv_iload_n hx hb dX11_shipHour_76 rfl (lv_at hl 3 rfl) ?_
      refine lv_ldcw (v := 1664525) hx hb hown (hts _ wm_t1437) dX11_shipHour_77 ?_
      refine lv_aload_n hx hb dX11_shipHour_80 rfl (lv_at hl 2 rfl) ?_
      refine r_get (k := 14) (v := .ref (ea E 10)) C hP oM_0 rfl iX11 (by decide) wm_t1031 rfl rfl dX11_shipHour_81 ?_
      refine lv_iload_n hx hb dX11_shipHour_84 rfl (lv_at hl 3 rfl) ?_
      have h16 := (rdK_e hf).1
      refine r_ald C hP aM_10 h16 dX11_shipHour_85 ?_
      refine lv_topi (fun v15 ev15 => ?_)
      replace hf := rdK_n ev15 hf
      refine lv_imul hx hb dX11_shipHour_86 ?_
      refine lv_ldcw (v := 1013904223) hx hb hown (hts _ wm_t1438) dX11_shipHour_87 ?_
      refine lv_iadd hx hb dX11_shipHour_90 ?_
      obtain ⟨h18, σ17, eσ17, hf⟩ := wrK_e hf
      refine r_ast C hP hS aM_10 h18 dX11_shipHour_91 (fun H locs hP hS => ?_)
      rw [← eσ17] at hP
      refine lv_aload_n hx hb dX11_shipHour_92 rfl (lv_at hl 2 rfl) ?_
      refine r_get (k := 15) (v := .ref (ea E 11)) C hP oM_0 rfl iX11 (by decide) wm_t1032 rfl rfl dX11_shipHour_93 ?_
      refine lv_iload_n hx hb dX11_shipHour_96 rfl (lv_at hl 3 rfl) ?_
      refine lv_iload_n hx hb dX11_shipHour_97 rfl (lv_at hl 1 rfl) ?_
      refine lv_if_le (tgt := 106) hx hb dX11_shipHour_98 (by decide) (fun c19 => ?_) (fun c19 => ?_)
      · replace hf := it_t c19 hf
        refine lv_iload hx hb dX11_shipHour_106 (lv_at hl 0 rfl) ?_
        refine lv_ineg hx hb dX11_shipHour_108 ?_
        exact b_fX11_shipHour_109 C σ17 a0 a1 r8 r12 (-r12) a0 hf H locs ls hP hS (lv_sub hl [2, 3, 4, 1, 0] rfl)
      · replace hf := it_f c19 hf
        refine lv_iload hx hb dX11_shipHour_101 (lv_at hl 0 rfl) ?_
        refine lv_goto (tgt := 109) hx hb dX11_shipHour_103 (by decide) ?_
        exact b_fX11_shipHour_109 C σ17 a0 a1 r8 r12 r12 a0 hf H locs ls hP hS (lv_sub hl [2, 3, 4, 1, 0] rfl)
    · replace hf := it_t c14 hf
      refine lv_aload_n hx hb dX11_shipHour_47 rfl (lv_at hl 2 rfl) ?_
      refine r_get (k := 15) (v := .ref (ea E 11)) C hP oM_0 rfl iX11 (by decide) wm_t1032 rfl rfl dX11_shipHour_48 ?_
      refine lv_iload_n hx hb dX11_shipHour_51 rfl (lv_at hl 3 rfl) ?_
      refine lv_iload_n hx hb dX11_shipHour_52 rfl (lv_at hl 1 rfl) ?_
      refine lv_if_le (tgt := 61) hx hb dX11_shipHour_53 (by decide) (fun c20 => ?_) (fun c20 => ?_)
      · replace hf := it_t c20 hf
        refine lv_bipush (v := (-61)) hx hb dX11_shipHour_61 (by decide) ?_
        exact b_fX11_shipHour_63 C σ7 a0 a1 (-61) a0 hf H locs ls hP hS (lv_sub hl [2, 3, 4] rfl)
      · replace hf := it_f c20 hf
        refine lv_bipush (v := 61) hx hb dX11_shipHour_56 (by decide) ?_
        refine lv_goto (tgt := 63) hx hb dX11_shipHour_58 (by decide) ?_
        exact b_fX11_shipHour_63 C σ7 a0 a1 61 a0 hf H locs ls hP hS (lv_sub hl [2, 3, 4] rfl)
  · replace hf := it_f c3 hf
    cases hf
    exact r_vret C hP hS dX11_shipHour_10
def fX11_hours_57 (rec32 : St → Int32 → Int32 → Option (Int32 × St)) (σ : St) (x1 : Int32) (x2 : Int32) : Option (Int32 × St) :=
(nmS (st_put σ 0 1 ((σ 0 1) + 1)) fun σ1 =>
rec32 σ1 x1 (x2 + 1))
set_option maxHeartbeats 4000000 in
theorem b_fX11_hours_57 {E : Ev} {l : Launch} {p : Program} {e : Env} {s : State} {m : MethodId} {args : Array Value} {below : List Frame} {meth : Method} {c : Code} (C : CX false E RX11 cX11_hours 3 (some .int) p s m args meth c) {rr : Int32} {sr : St} (rec32 : St → Int32 → Int32 → Option (Int32 × St)) (hr32 : ∀ (σ : St) (x1 : Int32) (x2 : Int32), rec32 σ x1 x2 = some (rr, sr) → GW false l (rmD 6) E 3 p e s m args below meth c (MQ below (QI false E rr sr s.heap.size) args s 0 0 (aW false E s.heap.size)) σ 32 [(0, .ref (ea E 0)), (1, .int x1), (2, .int x2)] []) : ∀ (σ : St) (x1 : Int32) (x2 : Int32), fX11_hours_57 rec32 σ x1 x2 = some (rr, sr) → GW false l (rmD 6) E 3 p e s m args below meth c (MQ below (QI false E rr sr s.heap.size) args s 0 0 (aW false E s.heap.size)) σ 57 [(0, .ref (ea E 0)), (1, .int x1), (2, .int x2)] [] := by
  intro σ x1 x2 hf H locs ls hP hS hl
  obtain ⟨hx, hb, hr, hml, hown, hts, hlocks, hK, hX, hj⟩ := id C
  unfold fX11_hours_57 at hf
  refine lv_aload_n hx hb dX11_hours_57 rfl (lv_at hl 0 rfl) ?_
  refine lv_aload_n hx hb dX11_hours_58 rfl (lv_at hl 0 rfl) ?_
  refine r_get (k := 1) (v := .int (σ 0 1)) C hP oM_0 rfl iX11 (by decide) wm_t1018 rfl rfl dX11_hours_59 ?_
  refine lv_iconst (v := 1) hx hb dX11_hours_62 (by decide) ?_
  refine lv_iadd hx hb dX11_hours_63 ?_
  refine r_put (k := 1) (x := ((σ 0 1) + 1)) C hP hS tyX11 tyX11_ok nmX11 oM_0 rfl iX11 (by decide) wm_t1018 rfl rfl sM_0_1 rfl rfl (Nat.le_of_ble_eq_true rfl) dX11_hours_64 (fun H locs hP hS => ?_)
  obtain ⟨σ1, eσ1, hf⟩ := nmS_e hf
  rw [← eσ1] at hP
  refine lv_iinc (v := (x2 + 1)) (lv' := [(2, .int (x2 + 1)), (0, .ref (ea E 0)), (1, .int x1)]) hx hb dX11_hours_67 hl (k := 2) rfl rfl (by decide) rfl (fun ls hl => ?_)
  refine lv_goto (tgt := 32) hx hb dX11_hours_70 (by decide) ?_
  exact hr32 σ1 x1 (x2 + 1) hf H locs ls hP hS (lv_sub hl [1, 2, 0] rfl)
def fX11_hours_32B (rec32 : St → Int32 → Int32 → Option (Int32 × St)) (σ : St) (x1 : Int32) (x2 : Int32) : Option (Int32 × St) :=
(if x1 ≤ x2 then
some ((σ 0 1), σ)
else
(cv (fX11_heapHour σ) fun σ3 =>
(if (σ3 0 13) = 0 then
fX11_hours_57 rec32 σ3 x1 x2
else
(cv (fX11_shipHour σ3 0 (σ3 0 1)) fun σ6 =>
fX11_hours_57 rec32 σ6 x1 x2))))
set_option maxHeartbeats 4000000 in
theorem b_fX11_hours_32B {E : Ev} {l : Launch} {p : Program} {e : Env} {s : State} {m : MethodId} {args : Array Value} {below : List Frame} {meth : Method} {c : Code} (C : CX false E RX11 cX11_hours 3 (some .int) p s m args meth c) {rr : Int32} {sr : St} (rec32 : St → Int32 → Int32 → Option (Int32 × St)) (hr32 : ∀ (σ : St) (x1 : Int32) (x2 : Int32), rec32 σ x1 x2 = some (rr, sr) → GW false l (rmD 6) E 3 p e s m args below meth c (MQ below (QI false E rr sr s.heap.size) args s 0 0 (aW false E s.heap.size)) σ 32 [(0, .ref (ea E 0)), (1, .int x1), (2, .int x2)] []) : ∀ (σ : St) (x1 : Int32) (x2 : Int32), fX11_hours_32B rec32 σ x1 x2 = some (rr, sr) → GW false l (rmD 6) E 3 p e s m args below meth c (MQ below (QI false E rr sr s.heap.size) args s 0 0 (aW false E s.heap.size)) σ 32 [(0, .ref (ea E 0)), (1, .int x1), (2, .int x2)] [] := by
  intro σ x1 x2 hf H locs ls hP hS hl
  obtain ⟨hx, hb, hr, hml, hown, hts, hlocks, hK, hX, hj⟩ := id C
  unfold fX11_hours_32B at hf
  refine lv_iload_n hx hb dX11_hours_32 rfl (lv_at hl 2 rfl) ?_
  refine lv_iload_n hx hb dX11_hours_33 rfl (lv_at hl 1 rfl) ?_
  refine lv_icmp_ge (tgt := 73) hx hb dX11_hours_34 (by decide) (fun c1 => ?_) (fun c1 => ?_)
  · replace hf := it_t c1 hf
    refine lv_aload_n hx hb dX11_hours_73 rfl (lv_at hl 0 rfl) ?_
    refine r_get (k := 1) (v := .int (σ 0 1)) C hP oM_0 rfl iX11 (by decide) wm_t1018 rfl rfl dX11_hours_74 ?_
    cases hf
    exact r_iret C hP hS dX11_hours_77
  · replace hf := it_f c1 hf
    refine lv_aload_n hx hb dX11_hours_37 rfl (lv_at hl 0 rfl) ?_
    obtain ⟨σ3, hc2, hf⟩ := cv_e hf
    refine r_cVv (n := 0) (As := []) (rest := []) C (c_fX11_heapHour hj σ H.size hc2) oM_0 rfl gv_RX11_344 (by decide +kernel) (rmD_le (by decide) (by decide)) rfl rfl (Nat.le_of_ble_eq_true rfl) dX11_hours_38 hP hS hl.1 (fun H locs hP hS => ?_)
    refine lv_aload_n hx hb dX11_hours_41 rfl (lv_at hl 0 rfl) ?_
    refine r_get (k := 13) (v := .int (σ3 0 13)) C hP oM_0 rfl iX11 (by decide) wm_t1030 rfl rfl dX11_hours_42 ?_
    refine lv_if_eq (tgt := 57) hx hb dX11_hours_45 (by decide) (fun c4 => ?_) (fun c4 => ?_)
    · replace hf := it_t c4 hf
      exact b_fX11_hours_57 C rec32 hr32 σ3 x1 x2 hf H locs ls hP hS (lv_sub hl [0, 1, 2] rfl)
    · replace hf := it_f c4 hf
      refine lv_aload_n hx hb dX11_hours_48 rfl (lv_at hl 0 rfl) ?_
      refine lv_iconst (v := 0) hx hb dX11_hours_49 (by decide) ?_
      refine lv_aload_n hx hb dX11_hours_50 rfl (lv_at hl 0 rfl) ?_
      refine r_get (k := 1) (v := .int (σ3 0 1)) C hP oM_0 rfl iX11 (by decide) wm_t1018 rfl rfl dX11_hours_51 ?_
      obtain ⟨σ6, hc5, hf⟩ := cv_e hf
      refine r_cVv (n := 2) (As := [.int 0, .int (σ3 0 1)]) (rest := []) C (c_fX11_shipHour hj σ3 H.size 0 (σ3 0 1) hc5) oM_0 rfl gv_RX11_350 (by decide +kernel) (rmD_le (by decide) (by decide)) rfl rfl (Nat.le_of_ble_eq_true rfl) dX11_hours_54 hP hS hl.1 (fun H locs hP hS => ?_)
      exact b_fX11_hours_57 C rec32 hr32 σ6 x1 x2 hf H locs ls hP hS (lv_sub hl [0, 1, 2] rfl)
def fX11_hours_32 : Nat → St → Int32 → Int32 → Option (Int32 × St)
  | 0 => fun _ _ _ => none
  | n + 1 => fun σ x1 x2 => fX11_hours_32B (fX11_hours_32 n) σ x1 x2
theorem b_fX11_hours_32 {E : Ev} {l : Launch} {p : Program} {e : Env} {s : State} {m : MethodId} {args : Array Value} {below : List Frame} {meth : Method} {c : Code} (C : CX false E RX11 cX11_hours 3 (some .int) p s m args meth c) {rr : Int32} {sr : St} : ∀ (n : Nat) (σ : St) (x1 : Int32) (x2 : Int32), fX11_hours_32 n σ x1 x2 = some (rr, sr) → GW false l (rmD 6) E 3 p e s m args below meth c (MQ below (QI false E rr sr s.heap.size) args s 0 0 (aW false E s.heap.size)) σ 32 [(0, .ref (ea E 0)), (1, .int x1), (2, .int x2)] [] := by
  intro n
  induction n with
  | zero => intro σ x1 x2 hf; have hf : (none : Option _) = some _ := hf; cases hf
  | succ n ih => intro σ x1 x2 hf; exact b_fX11_hours_32B C (fX11_hours_32 n) ih σ x1 x2 hf
def fX11_hours (σ : St) (a0 : Int32) : Option (Int32 × St) :=
(nmS (st_put σ 0 0 0) fun σ1 =>
(if (fX11_isIn a0 1 48) = 0 then
some ((-1), σ1)
else
(if ((σ1 0 1) + a0) ≤ 719 then
fX11_hours_32 FU σ1 a0 0
else
some ((-1), σ1))))
set_option maxHeartbeats 4000000 in
theorem c_fX11_hours {E : Ev} {l : Launch} (hj : jW false E) (σ : St) (sz : Nat) (a0 : Int32) {rr : Int32} {sr : St} (hf : fX11_hours σ a0 = some (rr, sr)) : Met l yX11_hours (Cond.code yX11_hours cX11_hours 3 (some .int) :: gT) (rmD 6) (va_Pc [.ref (ea E 0), .int a0] (preW false E σ sz)) (QI false E rr sr sz) 0 0 (aW false E sz) := by
  refine r_entry (QI false E rr sr) hj (by decide) [.ref (ea E 0), .int a0] (Nat.le_of_ble_eq_true rfl) (fun p e s m args below meth c C => ?_)
  intro H locs ls hP hS hl
  have hl : lv_has ls 3 [(0, .ref (ea E 0)), (1, .int a0)] := hl
  obtain ⟨hx, hb, hr, hml, hown, hts, hlocks, hK, hX, hj⟩ := id C
  unfold fX11_hours at hf
  refine lv_aload_n hx hb dX11_hours_0 rfl (lv_at hl 0 rfl) ?_
  refine lv_iconst (v := 0) hx hb dX11_hours_1 (by decide) ?_
  refine r_put (k := 0) (x := 0) C hP hS tyX11 tyX11_ok nmX11 oM_0 rfl iX11 (by decide) wm_t1017 rfl rfl sM_0_0 rfl rfl (Nat.le_of_ble_eq_true rfl) dX11_hours_2 (fun H locs hP hS => ?_)
  obtain ⟨σ1, eσ1, hf⟩ := nmS_e hf
  rw [← eσ1] at hP
  refine lv_aload_n hx hb dX11_hours_5 rfl (lv_at hl 0 rfl) ?_
  refine lv_iload_n hx hb dX11_hours_6 rfl (lv_at hl 1 rfl) ?_
  refine lv_iconst (v := 1) hx hb dX11_hours_7 (by decide) ?_
  refine lv_bipush (v := 48) hx hb dX11_hours_8 (by decide) ?_
  refine r_cVi (n := 3) (As := [.int a0, .int 1, .int 48]) (rest := []) C (c_fX11_isIn hj σ1 H.size a0 1 48) oM_0 rfl gv_RX11_144 (by decide +kernel) (rmD_le (by decide) (by decide)) rfl rfl (Nat.le_of_ble_eq_true rfl) dX11_hours_10 hP hS hl.1 (fun H locs hP hS => ?_)
  refine lv_if_eq (tgt := 28) hx hb dX11_hours_13 (by decide) (fun c2 => ?_) (fun c2 => ?_)
  · replace hf := it_t c2 hf
    refine lv_iconst (v := (-1)) hx hb dX11_hours_28 (by decide) ?_
    cases hf
    exact r_iret C hP hS dX11_hours_29
  · replace hf := it_f c2 hf
    refine lv_aload_n hx hb dX11_hours_16 rfl (lv_at hl 0 rfl) ?_
    refine r_get (k := 1) (v := .int (σ1 0 1)) C hP oM_0 rfl iX11 (by decide) wm_t1018 rfl rfl dX11_hours_17 ?_
    refine lv_iload_n hx hb dX11_hours_20 rfl (lv_at hl 1 rfl) ?_
    refine lv_iadd hx hb dX11_hours_21 ?_
    refine lv_sipush (v := 719) hx hb dX11_hours_22 (by decide) ?_
    refine lv_icmp_le (tgt := 30) hx hb dX11_hours_25 (by decide) (fun c3 => ?_) (fun c3 => ?_)
    · replace hf := it_t c3 hf
      refine lv_iconst (v := 0) hx hb dX11_hours_30 (by decide) ?_
      refine lv_istore_n (lv' := [(2, .int 0), (0, .ref (ea E 0)), (1, .int a0)]) hx hb dX11_hours_31 rfl hl (by decide) rfl (fun ls hl => ?_)
      exact b_fX11_hours_32 C FU σ1 a0 0 hf H locs ls hP hS (lv_sub hl [1, 2, 0] rfl)
    · replace hf := it_f c3 hf
      refine lv_iconst (v := (-1)) hx hb dX11_hours_28 (by decide) ?_
      cases hf
      exact r_iret C hP hS dX11_hours_29
def fX11_load (σ : St) (a0 : Int32) (a1 : Int32) (a2 : Int32) (a3 : Int32) : Option (Int32 × St) :=
(nmS (st_put σ 0 0 0) fun σ1 =>
(if (fX11_heapAt a0 a1 0) = (-1) then
some (0, σ1)
else
(if (fX11_holdAt a2 a3 0) = (-1) then
some (0, σ1)
else
(if (σ1 0 13) = 0 then
(cq (fX11_heapHeight σ1 (fX11_heapAt a0 a1 0)) fun r5 =>
(if r5 = 0 then
some (0, σ1)
else
(cq (fX11_height σ1 (fX11_holdAt a2 a3 0)) fun r8 =>
(if r8 = 6 then
some (0, σ1)
else
(cq (fX11_heapHeight σ1 (fX11_heapAt a0 a1 0)) fun r11 =>
(cq (fX11_height σ1 (fX11_holdAt a2 a3 0)) fun r13 =>
(rdK 256 (σ1 3) (((fX11_heapAt a0 a1 0) + (64 * r11)) - 64) fun v15 =>
(wrK 288 σ1 5 ((fX11_holdAt a2 a3 0) + r13) v15 fun σ17 =>
(rdK 256 (σ17 4) (((fX11_heapAt a0 a1 0) + (64 * r11)) - 64) fun v19 =>
(wrK 288 σ17 6 ((fX11_holdAt a2 a3 0) + r13) v19 fun σ21 =>
(wrK 288 σ21 7 ((fX11_holdAt a2 a3 0) + r13) 0 fun σ23 =>
(wrK 288 σ23 8 ((fX11_holdAt a2 a3 0) + r13) (vp_nar .boolean 0) fun σ25 =>
(wrK 256 σ25 3 (((fX11_heapAt a0 a1 0) + (64 * r11)) - 64) 0 fun σ27 =>
(wrK 256 σ27 4 (((fX11_heapAt a0 a1 0) + (64 * r11)) - 64) 0 fun σ29 =>
some (1, σ29)))))))))))))))
else
some (0, σ1)))))
set_option maxHeartbeats 4000000 in
theorem c_fX11_load {E : Ev} {l : Launch} (hj : jW false E) (σ : St) (sz : Nat) (a0 : Int32) (a1 : Int32) (a2 : Int32) (a3 : Int32) {rr : Int32} {sr : St} (hf : fX11_load σ a0 a1 a2 a3 = some (rr, sr)) : Met l yX11_load (Cond.code yX11_load cX11_load 9 (some .boolean) :: gT) (rmD 3) (va_Pc [.ref (ea E 0), .int a0, .int a1, .int a2, .int a3] (preW false E σ sz)) (QI false E rr sr sz) 0 0 (aW false E sz) := by
  refine r_entry (QI false E rr sr) hj (by decide) [.ref (ea E 0), .int a0, .int a1, .int a2, .int a3] (Nat.le_of_ble_eq_true rfl) (fun p e s m args below meth c C => ?_)
  intro H locs ls hP hS hl
  have hl : lv_has ls 9 [(0, .ref (ea E 0)), (1, .int a0), (2, .int a1), (3, .int a2), (4, .int a3)] := hl
  obtain ⟨hx, hb, hr, hml, hown, hts, hlocks, hK, hX, hj⟩ := id C
  unfold fX11_load at hf
  refine lv_aload_n hx hb dX11_load_0 rfl (lv_at hl 0 rfl) ?_
  refine lv_iconst (v := 0) hx hb dX11_load_1 (by decide) ?_
  refine r_put (k := 0) (x := 0) C hP hS tyX11 tyX11_ok nmX11 oM_0 rfl iX11 (by decide) wm_t1017 rfl rfl sM_0_0 rfl rfl (Nat.le_of_ble_eq_true rfl) dX11_load_2 (fun H locs hP hS => ?_)
  obtain ⟨σ1, eσ1, hf⟩ := nmS_e hf
  rw [← eσ1] at hP
  refine lv_aload_n hx hb dX11_load_5 rfl (lv_at hl 0 rfl) ?_
  refine lv_iload_n hx hb dX11_load_6 rfl (lv_at hl 1 rfl) ?_
  refine lv_iload_n hx hb dX11_load_7 rfl (lv_at hl 2 rfl) ?_
  refine lv_iconst (v := 0) hx hb dX11_load_8 (by decide) ?_
  refine r_cVi (n := 3) (As := [.int a0, .int a1, .int 0]) (rest := []) C (c_fX11_heapAt hj σ1 H.size a0 a1 0) oM_0 rfl gv_RX11_151 (by decide +kernel) (rmD_le (by decide) (by decide)) rfl rfl (Nat.le_of_ble_eq_true rfl) dX11_load_9 hP hS hl.1 (fun H locs hP hS => ?_)
  refine lv_istore (lv' := [(5, .int (fX11_heapAt a0 a1 0)), (0, .ref (ea E 0)), (1, .int a0), (2, .int a1), (3, .int a2), (4, .int a3)]) hx hb dX11_load_12 hl (by decide) rfl (fun ls hl => ?_)
  refine lv_aload_n hx hb dX11_load_14 rfl (lv_at hl 1 rfl) ?_
  refine lv_iload_n hx hb dX11_load_15 rfl (lv_at hl 4 rfl) ?_
  refine lv_iload hx hb dX11_load_16 (lv_at hl 5 rfl) ?_
  refine lv_iconst (v := 0) hx hb dX11_load_18 (by decide) ?_
  refine r_cVi (n := 3) (As := [.int a2, .int a3, .int 0]) (rest := []) C (c_fX11_holdAt hj σ1 H.size a2 a3 0) oM_0 rfl gv_RX11_155 (by decide +kernel) (rmD_le (by decide) (by decide)) rfl rfl (Nat.le_of_ble_eq_true rfl) dX11_load_19 hP hS hl.1 (fun H locs hP hS => ?_)
  refine lv_istore (lv' := [(6, .int (fX11_holdAt a2 a3 0)), (5, .int (fX11_heapAt a0 a1 0)), (0, .ref (ea E 0)), (1, .int a0), (2, .int a1), (3, .int a2), (4, .int a3)]) hx hb dX11_load_22 hl (by decide) rfl (fun ls hl => ?_)
  refine lv_iload hx hb dX11_load_24 (lv_at hl 1 rfl) ?_
  refine lv_iconst (v := (-1)) hx hb dX11_load_26 (by decide) ?_
  refine lv_icmp_eq (tgt := 63) hx hb dX11_load_27 (by decide) (fun c2 => ?_) (fun c2 => ?_)
  · replace hf := it_t c2 hf
    refine lv_iconst (v := 0) hx hb dX11_load_63 (by decide) ?_
    cases hf
    exact r_zret C rfl hP hS dX11_load_64
  · replace hf := it_f c2 hf
    refine lv_iload hx hb dX11_load_30 (lv_at hl 0 rfl) ?_
    refine lv_iconst (v := (-1)) hx hb dX11_load_32 (by decide) ?_
    refine lv_icmp_eq (tgt := 63) hx hb dX11_load_33 (by decide) (fun c3 => ?_) (fun c3 => ?_)
    · replace hf := it_t c3 hf
      refine lv_iconst (v := 0) hx hb dX11_load_63 (by decide) ?_
      cases hf
      exact r_zret C rfl hP hS dX11_load_64
    · replace hf := it_f c3 hf
      refine lv_aload_n hx hb dX11_load_36 rfl (lv_at hl 2 rfl) ?_
      refine r_get (k := 13) (v := .int (σ1 0 13)) C hP oM_0 rfl iX11 (by decide) wm_t1030 rfl rfl dX11_load_37 ?_
      refine lv_if_ne (tgt := 63) hx hb dX11_load_40 (by decide) (fun c4 => ?_) (fun c4 => ?_)
      · replace hf := it_f c4 hf
        refine lv_iconst (v := 0) hx hb dX11_load_63 (by decide) ?_
        cases hf
        exact r_zret C rfl hP hS dX11_load_64
      · replace hf := it_t c4 hf
        refine lv_aload_n hx hb dX11_load_43 rfl (lv_at hl 2 rfl) ?_
        refine lv_iload hx hb dX11_load_44 (lv_at hl 1 rfl) ?_
        obtain ⟨r5, hc6, hf⟩ := cq_e hf
        refine r_cVi (n := 1) (As := [.int (fX11_heapAt a0 a1 0)]) (rest := []) C (c_fX11_heapHeight hj σ1 H.size (fX11_heapAt a0 a1 0) hc6) oM_0 rfl gv_RX11_290 (by decide +kernel) (rmD_le (by decide) (by decide)) rfl rfl (Nat.le_of_ble_eq_true rfl) dX11_load_46 hP hS hl.1 (fun H locs hP hS => ?_)
        refine lv_if_eq (tgt := 63) hx hb dX11_load_49 (by decide) (fun c7 => ?_) (fun c7 => ?_)
        · replace hf := it_t c7 hf
          refine lv_iconst (v := 0) hx hb dX11_load_63 (by decide) ?_
          cases hf
          exact r_zret C rfl hP hS dX11_load_64
        · replace hf := it_f c7 hf
          refine lv_aload_n hx hb dX11_load_52 rfl (lv_at hl 2 rfl) ?_
          refine lv_iload hx hb dX11_load_53 (lv_at hl 0 rfl) ?_
          obtain ⟨r8, hc9, hf⟩ := cq_e hf
          refine r_cVi (n := 1) (As := [.int (fX11_holdAt a2 a3 0)]) (rest := []) C (c_fX11_height hj σ1 H.size (fX11_holdAt a2 a3 0) hc9) oM_0 rfl gv_RX11_320 (by decide +kernel) (rmD_le (by decide) (by decide)) rfl rfl (Nat.le_of_ble_eq_true rfl) dX11_load_55 hP hS hl.1 (fun H locs hP hS => ?_)
          refine lv_bipush (v := 6) hx hb dX11_load_58 (by decide) ?_
          refine lv_icmp_ne (tgt := 65) hx hb dX11_load_60 (by decide) (fun c10 => ?_) (fun c10 => ?_)
          · replace hf := it_f c10 hf
            refine lv_iload hx hb dX11_load_65 (lv_at hl 1 rfl) ?_
            refine lv_bipush (v := 64) hx hb dX11_load_67 (by decide) ?_
            refine lv_aload_n hx hb dX11_load_69 rfl (lv_at hl 2 rfl) ?_
            refine lv_iload hx hb dX11_load_70 (lv_at hl 1 rfl) ?_
            obtain ⟨r11, hc12, hf⟩ := cq_e hf
            refine r_cVi (n := 1) (As := [.int (fX11_heapAt a0 a1 0)]) (rest := [.int 64, .int (fX11_heapAt a0 a1 0)]) C (c_fX11_heapHeight hj σ1 H.size (fX11_heapAt a0 a1 0) hc12) oM_0 rfl gv_RX11_290 (by decide +kernel) (rmD_le (by decide) (by decide)) rfl rfl (Nat.le_of_ble_eq_true rfl) dX11_load_72 hP hS hl.1 (fun H locs hP hS => ?_)
            refine lv_imul hx hb dX11_load_75 ?_
            refine lv_iadd hx hb dX11_load_76 ?_
            refine lv_bipush (v := 64) hx hb dX11_load_77 (by decide) ?_
            refine lv_isub hx hb dX11_load_79 ?_
            refine lv_istore (lv' := [(7, .int (((fX11_heapAt a0 a1 0) + (64 * r11)) - 64)), (6, .int (fX11_holdAt a2 a3 0)), (5, .int (fX11_heapAt a0 a1 0)), (0, .ref (ea E 0)), (1, .int a0), (2, .int a1), (3, .int a2), (4, .int a3)]) hx hb dX11_load_80 hl (by decide) rfl (fun ls hl => ?_)
            refine lv_iload hx hb dX11_load_82 (lv_at hl 1 rfl) ?_
            refine lv_aload_n hx hb dX11_load_84 rfl (lv_at hl 3 rfl) ?_
            refine lv_iload hx hb dX11_load_85 (lv_at hl 1 rfl) ?_
            obtain ⟨r13, hc14, hf⟩ := cq_e hf
            refine r_cVi (n := 1) (As := [.int (fX11_holdAt a2 a3 0)]) (rest := [.int (fX11_holdAt a2 a3 0)]) C (c_fX11_height hj σ1 H.size (fX11_holdAt a2 a3 0) hc14) oM_0 rfl gv_RX11_320 (by decide +kernel) (rmD_le (by decide) (by decide)) rfl rfl (Nat.le_of_ble_eq_true rfl) dX11_load_87 hP hS hl.1 (fun H locs hP hS => ?_)
            refine lv_iadd hx hb dX11_load_90 ?_
            refine lv_istore (lv' := [(8, .int ((fX11_holdAt a2 a3 0) + r13)), (7, .int (((fX11_heapAt a0 a1 0) + (64 * r11)) - 64)), (6, .int (fX11_holdAt a2 a3 0)), (5, .int (fX11_heapAt a0 a1 0)), (0, .ref (ea E 0)), (1, .int a0), (2, .int a1), (3, .int a2), (4, .int a3)]) hx hb dX11_load_91 hl (by decide) rfl (fun ls hl => ?_)
            refine lv_aload_n hx hb dX11_load_93 rfl (lv_at hl 4 rfl) ?_
            refine r_get (k := 7) (v := .ref (ea E 5)) C hP oM_0 rfl iX11 (by decide) wm_t1024 rfl rfl dX11_load_94 ?_
            refine lv_iload hx hb dX11_load_97 (lv_at hl 0 rfl) ?_
            refine lv_aload_n hx hb dX11_load_99 rfl (lv_at hl 4 rfl) ?_
            refine r_get (k := 5) (v := .ref (ea E 3)) C hP oM_0 rfl iX11 (by decide) wm_t1022 rfl rfl dX11_load_100 ?_
            refine lv_iload hx hb dX11_load_103 (lv_at hl 1 rfl) ?_
            have h16 := (rdK_e hf).1
            refine r_ald C hP aM_3 h16 dX11_load_105 ?_
            refine lv_topi (fun v15 ev15 => ?_)
            replace hf := rdK_n ev15 hf
            obtain ⟨h18, σ17, eσ17, hf⟩ := wrK_e hf
            refine r_ast C hP hS aM_5 h18 dX11_load_106 (fun H locs hP hS => ?_)
            rw [← eσ17] at hP
            refine lv_aload_n hx hb dX11_load_107 rfl (lv_at hl 4 rfl) ?_
            refine r_get (k := 8) (v := .ref (ea E 6)) C hP oM_0 rfl iX11 (by decide) wm_t1025 rfl rfl dX11_load_108 ?_
            refine lv_iload hx hb dX11_load_111 (lv_at hl 0 rfl) ?_
            refine lv_aload_n hx hb dX11_load_113 rfl (lv_at hl 4 rfl) ?_
            refine r_get (k := 6) (v := .ref (ea E 4)) C hP oM_0 rfl iX11 (by decide) wm_t1023 rfl rfl dX11_load_114 ?_
            refine lv_iload hx hb dX11_load_117 (lv_at hl 1 rfl) ?_
            have h20 := (rdK_e hf).1
            refine r_ald C hP aM_4 h20 dX11_load_119 ?_
            refine lv_topi (fun v19 ev19 => ?_)
            replace hf := rdK_n ev19 hf
            obtain ⟨h22, σ21, eσ21, hf⟩ := wrK_e hf
            refine r_ast C hP hS aM_6 h22 dX11_load_120 (fun H locs hP hS => ?_)
            rw [← eσ21] at hP
            refine lv_aload_n hx hb dX11_load_121 rfl (lv_at hl 4 rfl) ?_
            refine r_get (k := 9) (v := .ref (ea E 7)) C hP oM_0 rfl iX11 (by decide) wm_t1026 rfl rfl dX11_load_122 ?_
            refine lv_iload hx hb dX11_load_125 (lv_at hl 0 rfl) ?_
            refine lv_iconst (v := 0) hx hb dX11_load_127 (by decide) ?_
            obtain ⟨h24, σ23, eσ23, hf⟩ := wrK_e hf
            refine r_ast C hP hS aM_7 h24 dX11_load_128 (fun H locs hP hS => ?_)
            rw [← eσ23] at hP
            refine lv_aload_n hx hb dX11_load_129 rfl (lv_at hl 4 rfl) ?_
            refine r_get (k := 10) (v := .ref (ea E 8)) C hP oM_0 rfl iX11 (by decide) wm_t1027 rfl rfl dX11_load_130 ?_
            refine lv_iload hx hb dX11_load_133 (lv_at hl 0 rfl) ?_
            refine lv_iconst (v := 0) hx hb dX11_load_135 (by decide) ?_
            obtain ⟨h26, σ25, eσ25, hf⟩ := wrK_e hf
            refine r_zast C hP hS aM_8 h26 dX11_load_136 (fun H locs hP hS => ?_)
            rw [← eσ25] at hP
            refine lv_aload_n hx hb dX11_load_137 rfl (lv_at hl 4 rfl) ?_
            refine r_get (k := 5) (v := .ref (ea E 3)) C hP oM_0 rfl iX11 (by decide) wm_t1022 rfl rfl dX11_load_138 ?_
            refine lv_iload hx hb dX11_load_141 (lv_at hl 1 rfl) ?_
            refine lv_iconst (v := 0) hx hb dX11_load_143 (by decide) ?_
            obtain ⟨h28, σ27, eσ27, hf⟩ := wrK_e hf
            refine r_ast C hP hS aM_3 h28 dX11_load_144 (fun H locs hP hS => ?_)
            rw [← eσ27] at hP
            refine lv_aload_n hx hb dX11_load_145 rfl (lv_at hl 4 rfl) ?_
            refine r_get (k := 6) (v := .ref (ea E 4)) C hP oM_0 rfl iX11 (by decide) wm_t1023 rfl rfl dX11_load_146 ?_
            refine lv_iload hx hb dX11_load_149 (lv_at hl 1 rfl) ?_
            refine lv_iconst (v := 0) hx hb dX11_load_151 (by decide) ?_
            obtain ⟨h30, σ29, eσ29, hf⟩ := wrK_e hf
            refine r_ast C hP hS aM_4 h30 dX11_load_152 (fun H locs hP hS => ?_)
            rw [← eσ29] at hP
            refine lv_iconst (v := 1) hx hb dX11_load_153 (by decide) ?_
            cases hf
            exact r_zret C rfl hP hS dX11_load_154
          · replace hf := it_t c10 hf
            refine lv_iconst (v := 0) hx hb dX11_load_63 (by decide) ?_
            cases hf
            exact r_zret C rfl hP hS dX11_load_64
