def fX0_age (σ : St) (a0 : Int32) : Option Int32 :=
(if (fX10_within ((σ 34 1) - 1) 60) = 0 then
some 99
else
(rdK 60 (σ 37) ((σ 34 1) - 1) fun v2 =>
some (if 99 < (a0 - v2) then 99 else (a0 - v2))))
set_option maxHeartbeats 4000000 in
theorem c_fX0_age {E : Ev} {l : Launch} (hj : jW true E) (σ : St) (sz : Nat) (a0 : Int32) {rr : Int32} (hf : fX0_age σ a0 = some rr) : Met l yX0_age (Cond.code yX0_age cX0_age 2 (some .int) :: gT) (rmD 2) (va_Pc [.ref (ea E 34), .int a0] (preW true E σ sz)) (QI true E rr σ sz) 0 0 (aW true E sz) := by
  refine r_entry (QI true E rr σ) hj (by decide) [.ref (ea E 34), .int a0] (Nat.le_of_ble_eq_true rfl) (fun p e s m args below meth c C => ?_)
  intro H locs ls hP hS hl
  have hl : lv_has ls 2 [(0, .ref (ea E 34)), (1, .int a0)] := hl
  obtain ⟨hx, hb, hr, hml, hown, hts, hlocks, hK, hX, hj⟩ := id C
  unfold fX0_age at hf
  refine lv_aload_n hx hb dX0_age_0 rfl (lv_at hl 0 rfl) ?_
  refine r_get (k := 1) (v := .int (σ 34 1)) C hP oC_34 rfl iX0 (by decide) wm_t249 rfl rfl dX0_age_1 ?_
  refine lv_iconst (v := 1) hx hb dX0_age_4 (by decide) ?_
  refine lv_isub hx hb dX0_age_5 ?_
  refine lv_bipush (v := 60) hx hb dX0_age_6 (by decide) ?_
  refine r_cNi (n := 2) (As := [.int ((σ 34 1) - 1), .int 60]) (rest := []) (host := "SoupCargo") C (c_fX10_within hj σ H.size ((σ 34 1) - 1) 60) (by decide +kernel) wm_t343 wm_t1 wm_t342 (by decide +kernel) ⟨rfl, rfl, by decide, by decide⟩ rfl rfl (Nat.le_of_ble_eq_true rfl) dX0_age_8 hP hS hl.1 (fun H locs hP hS => ?_)
  refine lv_if_eq (tgt := 35) hx hb dX0_age_11 (by decide) (fun c1 => ?_) (fun c1 => ?_)
  · replace hf := it_t c1 hf
    refine lv_bipush (v := 99) hx hb dX0_age_35 (by decide) ?_
    cases hf
    exact r_iret C hP hS dX0_age_37
  · replace hf := it_f c1 hf
    refine lv_iload_n hx hb dX0_age_14 rfl (lv_at hl 1 rfl) ?_
    refine lv_aload_n hx hb dX0_age_15 rfl (lv_at hl 0 rfl) ?_
    refine r_get (k := 4) (v := .ref (ea E 37)) C hP oC_34 rfl iX0 (by decide) wm_t252 rfl rfl dX0_age_16 ?_
    refine lv_aload_n hx hb dX0_age_19 rfl (lv_at hl 0 rfl) ?_
    refine r_get (k := 1) (v := .int (σ 34 1)) C hP oC_34 rfl iX0 (by decide) wm_t249 rfl rfl dX0_age_20 ?_
    refine lv_iconst (v := 1) hx hb dX0_age_23 (by decide) ?_
    refine lv_isub hx hb dX0_age_24 ?_
    have h3 := (rdK_e hf).1
    refine r_ald C hP aC_37 h3 dX0_age_25 ?_
    refine lv_topi (fun v2 ev2 => ?_)
    replace hf := rdK_n ev2 hf
    refine lv_isub hx hb dX0_age_26 ?_
    refine lv_bipush (v := 99) hx hb dX0_age_27 (by decide) ?_
    refine va_mmin hx hb (hml.trans hl.1.symm) hown (hts _ wm_t849) (hts _ wm_t505) (hts _ wm_t4) (hts _ wm_t506) (by decide) (Nat.le_of_ble_eq_true rfl) (Nat.zero_le _) (Nat.zero_le _) dX0_age_29 ?_
    refine lv_goto (tgt := 37) hx hb dX0_age_32 (by decide) ?_
    cases hf
    exact r_iret C hP hS dX0_age_37
def fX0_least_67 (σ : St) (x3 : Int32) : Option Int32 :=
some (if 99 < x3 then 99 else x3)
set_option maxHeartbeats 4000000 in
theorem b_fX0_least_67 {E : Ev} {l : Launch} {p : Program} {e : Env} {s : State} {m : MethodId} {args : Array Value} {below : List Frame} {meth : Method} {c : Code} (σ : St) (C : CX true E RX0 cX0_least 5 (some .int) p s m args meth c) {rr : Int32} : ∀  (x3 : Int32), fX0_least_67 σ x3 = some rr → GW true l (rmD 3) E 5 p e s m args below meth c (MQ below (QI true E rr σ s.heap.size) args s 0 0 (aW true E s.heap.size)) σ 67 [(3, .int x3)] [] := by
  intro x3 hf H locs ls hP hS hl
  obtain ⟨hx, hb, hr, hml, hown, hts, hlocks, hK, hX, hj⟩ := id C
  unfold fX0_least_67 at hf
  refine lv_iload_n hx hb dX0_least_67 rfl (lv_at hl 0 rfl) ?_
  refine lv_bipush (v := 99) hx hb dX0_least_68 (by decide) ?_
  refine va_mmin hx hb (hml.trans hl.1.symm) hown (hts _ wm_t849) (hts _ wm_t505) (hts _ wm_t4) (hts _ wm_t506) (by decide) (Nat.le_of_ble_eq_true rfl) (Nat.zero_le _) (Nat.zero_le _) dX0_least_70 ?_
  cases hf
  exact r_iret C hP hS dX0_least_73
def fX0_least_5B (σ : St) (rec5 : Int32 → Int32 → Int32 → Int32 → Option Int32) (x1 : Int32) (x2 : Int32) (x3 : Int32) (x4 : Int32) : Option Int32 :=
(if (σ 34 1) ≤ x4 then
fX0_least_67 σ x3
else
(if 60 ≤ x4 then
fX0_least_67 σ x3
else
(rdK 60 (σ 37) x4 fun v3 =>
(if x2 < v3 then
rec5 x1 x2 x3 (x4 + 1)
else
(rdK 60 (σ 36) x4 fun v6 =>
(rdK 60 (σ 35) x4 fun v8 =>
(nm (if x3 < (v6 - ((σ 34 0) * (fX0_distance v8 x1))) then (v6 - ((σ 34 0) * (fX0_distance v8 x1))) else x3) fun v10 =>
rec5 x1 x2 v10 (x4 + 1))))))))
set_option maxHeartbeats 4000000 in
theorem b_fX0_least_5B {E : Ev} {l : Launch} {p : Program} {e : Env} {s : State} {m : MethodId} {args : Array Value} {below : List Frame} {meth : Method} {c : Code} (σ : St) (C : CX true E RX0 cX0_least 5 (some .int) p s m args meth c) {rr : Int32} (rec5 : Int32 → Int32 → Int32 → Int32 → Option Int32) (hr5 : ∀  (x1 : Int32) (x2 : Int32) (x3 : Int32) (x4 : Int32), rec5 x1 x2 x3 x4 = some rr → GW true l (rmD 3) E 5 p e s m args below meth c (MQ below (QI true E rr σ s.heap.size) args s 0 0 (aW true E s.heap.size)) σ 5 [(0, .ref (ea E 34)), (1, .int x1), (2, .int x2), (3, .int x3), (4, .int x4)] []) : ∀  (x1 : Int32) (x2 : Int32) (x3 : Int32) (x4 : Int32), fX0_least_5B σ rec5 x1 x2 x3 x4 = some rr → GW true l (rmD 3) E 5 p e s m args below meth c (MQ below (QI true E rr σ s.heap.size) args s 0 0 (aW true E s.heap.size)) σ 5 [(0, .ref (ea E 34)), (1, .int x1), (2, .int x2), (3, .int x3), (4, .int x4)] [] := by
  intro x1 x2 x3 x4 hf H locs ls hP hS hl
  obtain ⟨hx, hb, hr, hml, hown, hts, hlocks, hK, hX, hj⟩ := id C
  unfold fX0_least_5B at hf
  refine lv_iload hx hb dX0_least_5 (lv_at hl 4 rfl) ?_
  refine lv_aload_n hx hb dX0_least_7 rfl (lv_at hl 0 rfl) ?_
  refine r_get (k := 1) (v := .int (σ 34 1)) C hP oC_34 rfl iX0 (by decide) wm_t249 rfl rfl dX0_least_8 ?_
  refine lv_icmp_ge (tgt := 67) hx hb dX0_least_11 (by decide) (fun c1 => ?_) (fun c1 => ?_)
  · replace hf := it_t c1 hf
    exact b_fX0_least_67 σ C x3 hf H locs ls hP hS (lv_sub hl [3] rfl)
  · replace hf := it_f c1 hf
    refine lv_iload hx hb dX0_least_14 (lv_at hl 4 rfl) ?_
    refine lv_bipush (v := 60) hx hb dX0_least_16 (by decide) ?_
    refine lv_icmp_ge (tgt := 67) hx hb dX0_least_18 (by decide) (fun c2 => ?_) (fun c2 => ?_)
    · replace hf := it_t c2 hf
      exact b_fX0_least_67 σ C x3 hf H locs ls hP hS (lv_sub hl [3] rfl)
    · replace hf := it_f c2 hf
      refine lv_aload_n hx hb dX0_least_21 rfl (lv_at hl 0 rfl) ?_
      refine r_get (k := 4) (v := .ref (ea E 37)) C hP oC_34 rfl iX0 (by decide) wm_t252 rfl rfl dX0_least_22 ?_
      refine lv_iload hx hb dX0_least_25 (lv_at hl 4 rfl) ?_
      have h4 := (rdK_e hf).1
      refine r_ald C hP aC_37 h4 dX0_least_27 ?_
      refine lv_topi (fun v3 ev3 => ?_)
      replace hf := rdK_n ev3 hf
      refine lv_iload_n hx hb dX0_least_28 rfl (lv_at hl 2 rfl) ?_
      refine lv_icmp_gt (tgt := 61) hx hb dX0_least_29 (by decide) (fun c5 => ?_) (fun c5 => ?_)
      · replace hf := it_t c5 hf
        refine lv_iinc (v := (x4 + 1)) (lv' := [(4, .int (x4 + 1)), (0, .ref (ea E 34)), (1, .int x1), (2, .int x2), (3, .int x3)]) hx hb dX0_least_61 hl (k := 4) rfl rfl (by decide) rfl (fun ls hl => ?_)
        refine lv_goto (tgt := 5) hx hb dX0_least_64 (by decide) ?_
        exact hr5 x1 x2 x3 (x4 + 1) hf H locs ls hP hS (lv_sub hl [1, 2, 3, 4, 0] rfl)
      · replace hf := it_f c5 hf
        refine lv_iload_n hx hb dX0_least_32 rfl (lv_at hl 3 rfl) ?_
        refine lv_aload_n hx hb dX0_least_33 rfl (lv_at hl 0 rfl) ?_
        refine r_get (k := 3) (v := .ref (ea E 36)) C hP oC_34 rfl iX0 (by decide) wm_t251 rfl rfl dX0_least_34 ?_
        refine lv_iload hx hb dX0_least_37 (lv_at hl 4 rfl) ?_
        have h7 := (rdK_e hf).1
        refine r_ald C hP aC_36 h7 dX0_least_39 ?_
        refine lv_topi (fun v6 ev6 => ?_)
        replace hf := rdK_n ev6 hf
        refine lv_aload_n hx hb dX0_least_40 rfl (lv_at hl 0 rfl) ?_
        refine r_get (k := 0) (v := .int (σ 34 0)) C hP oC_34 rfl iX0 (by decide) wm_t247 rfl rfl dX0_least_41 ?_
        refine lv_aload_n hx hb dX0_least_44 rfl (lv_at hl 0 rfl) ?_
        refine r_get (k := 2) (v := .ref (ea E 35)) C hP oC_34 rfl iX0 (by decide) wm_t250 rfl rfl dX0_least_45 ?_
        refine lv_iload hx hb dX0_least_48 (lv_at hl 4 rfl) ?_
        have h9 := (rdK_e hf).1
        refine r_ald C hP aC_35 h9 dX0_least_50 ?_
        refine lv_topi (fun v8 ev8 => ?_)
        replace hf := rdK_n ev8 hf
        refine lv_iload_n hx hb dX0_least_51 rfl (lv_at hl 1 rfl) ?_
        refine r_cSi (n := 2) (As := [.int v8, .int x1]) (rest := [.int (σ 34 0), .int v6, .int x3]) C (c_fX0_distance hj σ H.size v8 x1) gs_RX0_38 (by decide +kernel) ⟨rfl, rfl, by decide, by decide⟩ rfl rfl (Nat.le_of_ble_eq_true rfl) dX0_least_52 hP hS hl.1 (fun H locs hP hS => ?_)
        refine lv_imul hx hb dX0_least_55 ?_
        refine lv_isub hx hb dX0_least_56 ?_
        refine va_mmax hx hb (hml.trans hl.1.symm) hown (hts _ wm_t848) (hts _ wm_t50) (hts _ wm_t4) (hts _ wm_t51) (by decide) (Nat.le_of_ble_eq_true rfl) (Nat.zero_le _) (Nat.zero_le _) dX0_least_57 ?_
        refine lv_topi (fun v10 ev10 => ?_)
        replace hf := nm_i ev10 hf
        refine lv_istore_n (lv' := [(3, .int v10), (0, .ref (ea E 34)), (1, .int x1), (2, .int x2), (4, .int x4)]) hx hb dX0_least_60 rfl hl (by decide) rfl (fun ls hl => ?_)
        refine lv_iinc (v := (x4 + 1)) (lv' := [(4, .int (x4 + 1)), (3, .int v10), (0, .ref (ea E 34)), (1, .int x1), (2, .int x2)]) hx hb dX0_least_61 hl (k := 4) rfl rfl (by decide) rfl (fun ls hl => ?_)
        refine lv_goto (tgt := 5) hx hb dX0_least_64 (by decide) ?_
        exact hr5 x1 x2 v10 (x4 + 1) hf H locs ls hP hS (lv_sub hl [2, 3, 4, 1, 0] rfl)
def fX0_least_5 (σ : St) : Nat → Int32 → Int32 → Int32 → Int32 → Option Int32
  | 0 => fun _ _ _ _ => none
  | n + 1 => fun x1 x2 x3 x4 => fX0_least_5B σ (fX0_least_5 σ n) x1 x2 x3 x4
theorem b_fX0_least_5 {E : Ev} {l : Launch} {p : Program} {e : Env} {s : State} {m : MethodId} {args : Array Value} {below : List Frame} {meth : Method} {c : Code} (σ : St) (C : CX true E RX0 cX0_least 5 (some .int) p s m args meth c) {rr : Int32} : ∀ (n : Nat) (x1 : Int32) (x2 : Int32) (x3 : Int32) (x4 : Int32), fX0_least_5 σ n x1 x2 x3 x4 = some rr → GW true l (rmD 3) E 5 p e s m args below meth c (MQ below (QI true E rr σ s.heap.size) args s 0 0 (aW true E s.heap.size)) σ 5 [(0, .ref (ea E 34)), (1, .int x1), (2, .int x2), (3, .int x3), (4, .int x4)] [] := by
  intro n
  induction n with
  | zero => intro x1 x2 x3 x4 hf; have hf : (none : Option _) = some _ := hf; cases hf
  | succ n ih => intro x1 x2 x3 x4 hf; exact b_fX0_least_5B σ C (fX0_least_5 σ n) ih x1 x2 x3 x4 hf
def fX0_least (σ : St) (a0 : Int32) (a1 : Int32) : Option Int32 :=
fX0_least_5 σ FU a0 a1 0 0
set_option maxHeartbeats 4000000 in
theorem c_fX0_least {E : Ev} {l : Launch} (hj : jW true E) (σ : St) (sz : Nat) (a0 : Int32) (a1 : Int32) {rr : Int32} (hf : fX0_least σ a0 a1 = some rr) : Met l yX0_least (Cond.code yX0_least cX0_least 5 (some .int) :: gT) (rmD 3) (va_Pc [.ref (ea E 34), .int a0, .int a1] (preW true E σ sz)) (QI true E rr σ sz) 0 0 (aW true E sz) := by
  refine r_entry (QI true E rr σ) hj (by decide) [.ref (ea E 34), .int a0, .int a1] (Nat.le_of_ble_eq_true rfl) (fun p e s m args below meth c C => ?_)
  intro H locs ls hP hS hl
  have hl : lv_has ls 5 [(0, .ref (ea E 34)), (1, .int a0), (2, .int a1)] := hl
  obtain ⟨hx, hb, hr, hml, hown, hts, hlocks, hK, hX, hj⟩ := id C
  unfold fX0_least at hf
  refine lv_iconst (v := 0) hx hb dX0_least_0 (by decide) ?_
  refine lv_istore_n (lv' := [(3, .int 0), (0, .ref (ea E 34)), (1, .int a0), (2, .int a1)]) hx hb dX0_least_1 rfl hl (by decide) rfl (fun ls hl => ?_)
  refine lv_iconst (v := 0) hx hb dX0_least_2 (by decide) ?_
  refine lv_istore (lv' := [(4, .int 0), (3, .int 0), (0, .ref (ea E 34)), (1, .int a0), (2, .int a1)]) hx hb dX0_least_3 hl (by decide) rfl (fun ls hl => ?_)
  exact b_fX0_least_5 σ C FU a0 a1 0 0 hf H locs ls hP hS (lv_sub hl [2, 3, 4, 1, 0] rfl)
def fX0_greatest_6B (σ : St) (rec6 : Int32 → Int32 → Int32 → Int32 → Option Int32) (x1 : Int32) (x2 : Int32) (x3 : Int32) (x4 : Int32) : Option Int32 :=
(if (σ 34 1) ≤ x4 then
some x3
else
(if 60 ≤ x4 then
some x3
else
(rdK 60 (σ 37) x4 fun v3 =>
(if x2 < v3 then
rec6 x1 x2 x3 (x4 + 1)
else
(rdK 60 (σ 36) x4 fun v6 =>
(rdK 60 (σ 35) x4 fun v8 =>
(nm (if (v6 + ((σ 34 0) * (fX0_distance v8 x1))) < x3 then (v6 + ((σ 34 0) * (fX0_distance v8 x1))) else x3) fun v10 =>
rec6 x1 x2 v10 (x4 + 1))))))))
set_option maxHeartbeats 4000000 in
theorem b_fX0_greatest_6B {E : Ev} {l : Launch} {p : Program} {e : Env} {s : State} {m : MethodId} {args : Array Value} {below : List Frame} {meth : Method} {c : Code} (σ : St) (C : CX true E RX0 cX0_greatest 5 (some .int) p s m args meth c) {rr : Int32} (rec6 : Int32 → Int32 → Int32 → Int32 → Option Int32) (hr6 : ∀  (x1 : Int32) (x2 : Int32) (x3 : Int32) (x4 : Int32), rec6 x1 x2 x3 x4 = some rr → GW true l (rmD 3) E 5 p e s m args below meth c (MQ below (QI true E rr σ s.heap.size) args s 0 0 (aW true E s.heap.size)) σ 6 [(0, .ref (ea E 34)), (1, .int x1), (2, .int x2), (3, .int x3), (4, .int x4)] []) : ∀  (x1 : Int32) (x2 : Int32) (x3 : Int32) (x4 : Int32), fX0_greatest_6B σ rec6 x1 x2 x3 x4 = some rr → GW true l (rmD 3) E 5 p e s m args below meth c (MQ below (QI true E rr σ s.heap.size) args s 0 0 (aW true E s.heap.size)) σ 6 [(0, .ref (ea E 34)), (1, .int x1), (2, .int x2), (3, .int x3), (4, .int x4)] [] := by
  intro x1 x2 x3 x4 hf H locs ls hP hS hl
  obtain ⟨hx, hb, hr, hml, hown, hts, hlocks, hK, hX, hj⟩ := id C
  unfold fX0_greatest_6B at hf
  refine lv_iload hx hb dX0_greatest_6 (lv_at hl 4 rfl) ?_
  refine lv_aload_n hx hb dX0_greatest_8 rfl (lv_at hl 0 rfl) ?_
  refine r_get (k := 1) (v := .int (σ 34 1)) C hP oC_34 rfl iX0 (by decide) wm_t249 rfl rfl dX0_greatest_9 ?_
  refine lv_icmp_ge (tgt := 68) hx hb dX0_greatest_12 (by decide) (fun c1 => ?_) (fun c1 => ?_)
  · replace hf := it_t c1 hf
    refine lv_iload_n hx hb dX0_greatest_68 rfl (lv_at hl 3 rfl) ?_
    cases hf
    exact r_iret C hP hS dX0_greatest_69
  · replace hf := it_f c1 hf
    refine lv_iload hx hb dX0_greatest_15 (lv_at hl 4 rfl) ?_
    refine lv_bipush (v := 60) hx hb dX0_greatest_17 (by decide) ?_
    refine lv_icmp_ge (tgt := 68) hx hb dX0_greatest_19 (by decide) (fun c2 => ?_) (fun c2 => ?_)
    · replace hf := it_t c2 hf
      refine lv_iload_n hx hb dX0_greatest_68 rfl (lv_at hl 3 rfl) ?_
      cases hf
      exact r_iret C hP hS dX0_greatest_69
    · replace hf := it_f c2 hf
      refine lv_aload_n hx hb dX0_greatest_22 rfl (lv_at hl 0 rfl) ?_
      refine r_get (k := 4) (v := .ref (ea E 37)) C hP oC_34 rfl iX0 (by decide) wm_t252 rfl rfl dX0_greatest_23 ?_
      refine lv_iload hx hb dX0_greatest_26 (lv_at hl 4 rfl) ?_
      have h4 := (rdK_e hf).1
      refine r_ald C hP aC_37 h4 dX0_greatest_28 ?_
      refine lv_topi (fun v3 ev3 => ?_)
      replace hf := rdK_n ev3 hf
      refine lv_iload_n hx hb dX0_greatest_29 rfl (lv_at hl 2 rfl) ?_
      refine lv_icmp_gt (tgt := 62) hx hb dX0_greatest_30 (by decide) (fun c5 => ?_) (fun c5 => ?_)
      · replace hf := it_t c5 hf
        refine lv_iinc (v := (x4 + 1)) (lv' := [(4, .int (x4 + 1)), (0, .ref (ea E 34)), (1, .int x1), (2, .int x2), (3, .int x3)]) hx hb dX0_greatest_62 hl (k := 4) rfl rfl (by decide) rfl (fun ls hl => ?_)
        refine lv_goto (tgt := 6) hx hb dX0_greatest_65 (by decide) ?_
        exact hr6 x1 x2 x3 (x4 + 1) hf H locs ls hP hS (lv_sub hl [1, 2, 3, 4, 0] rfl)
      · replace hf := it_f c5 hf
        refine lv_iload_n hx hb dX0_greatest_33 rfl (lv_at hl 3 rfl) ?_
        refine lv_aload_n hx hb dX0_greatest_34 rfl (lv_at hl 0 rfl) ?_
        refine r_get (k := 3) (v := .ref (ea E 36)) C hP oC_34 rfl iX0 (by decide) wm_t251 rfl rfl dX0_greatest_35 ?_
        refine lv_iload hx hb dX0_greatest_38 (lv_at hl 4 rfl) ?_
        have h7 := (rdK_e hf).1
        refine r_ald C hP aC_36 h7 dX0_greatest_40 ?_
        refine lv_topi (fun v6 ev6 => ?_)
        replace hf := rdK_n ev6 hf
        refine lv_aload_n hx hb dX0_greatest_41 rfl (lv_at hl 0 rfl) ?_
        refine r_get (k := 0) (v := .int (σ 34 0)) C hP oC_34 rfl iX0 (by decide) wm_t247 rfl rfl dX0_greatest_42 ?_
        refine lv_aload_n hx hb dX0_greatest_45 rfl (lv_at hl 0 rfl) ?_
        refine r_get (k := 2) (v := .ref (ea E 35)) C hP oC_34 rfl iX0 (by decide) wm_t250 rfl rfl dX0_greatest_46 ?_
        refine lv_iload hx hb dX0_greatest_49 (lv_at hl 4 rfl) ?_
        have h9 := (rdK_e hf).1
        refine r_ald C hP aC_35 h9 dX0_greatest_51 ?_
        refine lv_topi (fun v8 ev8 => ?_)
        replace hf := rdK_n ev8 hf
        refine lv_iload_n hx hb dX0_greatest_52 rfl (lv_at hl 1 rfl) ?_
        refine r_cSi (n := 2) (As := [.int v8, .int x1]) (rest := [.int (σ 34 0), .int v6, .int x3]) C (c_fX0_distance hj σ H.size v8 x1) gs_RX0_38 (by decide +kernel) ⟨rfl, rfl, by decide, by decide⟩ rfl rfl (Nat.le_of_ble_eq_true rfl) dX0_greatest_53 hP hS hl.1 (fun H locs hP hS => ?_)
        refine lv_imul hx hb dX0_greatest_56 ?_
        refine lv_iadd hx hb dX0_greatest_57 ?_
        refine va_mmin hx hb (hml.trans hl.1.symm) hown (hts _ wm_t849) (hts _ wm_t505) (hts _ wm_t4) (hts _ wm_t506) (by decide) (Nat.le_of_ble_eq_true rfl) (Nat.zero_le _) (Nat.zero_le _) dX0_greatest_58 ?_
        refine lv_topi (fun v10 ev10 => ?_)
        replace hf := nm_i ev10 hf
        refine lv_istore_n (lv' := [(3, .int v10), (0, .ref (ea E 34)), (1, .int x1), (2, .int x2), (4, .int x4)]) hx hb dX0_greatest_61 rfl hl (by decide) rfl (fun ls hl => ?_)
        refine lv_iinc (v := (x4 + 1)) (lv' := [(4, .int (x4 + 1)), (3, .int v10), (0, .ref (ea E 34)), (1, .int x1), (2, .int x2)]) hx hb dX0_greatest_62 hl (k := 4) rfl rfl (by decide) rfl (fun ls hl => ?_)
        refine lv_goto (tgt := 6) hx hb dX0_greatest_65 (by decide) ?_
        exact hr6 x1 x2 v10 (x4 + 1) hf H locs ls hP hS (lv_sub hl [2, 3, 4, 1, 0] rfl)
def fX0_greatest_6 (σ : St) : Nat → Int32 → Int32 → Int32 → Int32 → Option Int32
  | 0 => fun _ _ _ _ => none
  | n + 1 => fun x1 x2 x3 x4 => fX0_greatest_6B σ (fX0_greatest_6 σ n) x1 x2 x3 x4
theorem b_fX0_greatest_6 {E : Ev} {l : Launch} {p : Program} {e : Env} {s : State} {m : MethodId} {args : Array Value} {below : List Frame} {meth : Method} {c : Code} (σ : St) (C : CX true E RX0 cX0_greatest 5 (some .int) p s m args meth c) {rr : Int32} : ∀ (n : Nat) (x1 : Int32) (x2 : Int32) (x3 : Int32) (x4 : Int32), fX0_greatest_6 σ n x1 x2 x3 x4 = some rr → GW true l (rmD 3) E 5 p e s m args below meth c (MQ below (QI true E rr σ s.heap.size) args s 0 0 (aW true E s.heap.size)) σ 6 [(0, .ref (ea E 34)), (1, .int x1), (2, .int x2), (3, .int x3), (4, .int x4)] [] := by
  intro n
  induction n with
  | zero => intro x1 x2 x3 x4 hf; have hf : (none : Option _) = some _ := hf; cases hf
  | succ n ih => intro x1 x2 x3 x4 hf; exact b_fX0_greatest_6B σ C (fX0_greatest_6 σ n) ih x1 x2 x3 x4 hf
def fX0_greatest (σ : St) (a0 : Int32) (a1 : Int32) : Option Int32 :=
fX0_greatest_6 σ FU a0 a1 99 0
set_option maxHeartbeats 4000000 in
theorem c_fX0_greatest {E : Ev} {l : Launch} (hj : jW true E) (σ : St) (sz : Nat) (a0 : Int32) (a1 : Int32) {rr : Int32} (hf : fX0_greatest σ a0 a1 = some rr) : Met l yX0_greatest (Cond.code yX0_greatest cX0_greatest 5 (some .int) :: gT) (rmD 3) (va_Pc [.ref (ea E 34), .int a0, .int a1] (preW true E σ sz)) (QI true E rr σ sz) 0 0 (aW true E sz) := by
  refine r_entry (QI true E rr σ) hj (by decide) [.ref (ea E 34), .int a0, .int a1] (Nat.le_of_ble_eq_true rfl) (fun p e s m args below meth c C => ?_)
  intro H locs ls hP hS hl
  have hl : lv_has ls 5 [(0, .ref (ea E 34)), (1, .int a0), (2, .int a1)] := hl
  obtain ⟨hx, hb, hr, hml, hown, hts, hlocks, hK, hX, hj⟩ := id C
  unfold fX0_greatest at hf
  refine lv_bipush (v := 99) hx hb dX0_greatest_0 (by decide) ?_
  refine lv_istore_n (lv' := [(3, .int 99), (0, .ref (ea E 34)), (1, .int a0), (2, .int a1)]) hx hb dX0_greatest_2 rfl hl (by decide) rfl (fun ls hl => ?_)
  refine lv_iconst (v := 0) hx hb dX0_greatest_3 (by decide) ?_
  refine lv_istore (lv' := [(4, .int 0), (3, .int 99), (0, .ref (ea E 34)), (1, .int a0), (2, .int a1)]) hx hb dX0_greatest_4 hl (by decide) rfl (fun ls hl => ?_)
  exact b_fX0_greatest_6 σ C FU a0 a1 99 0 hf H locs ls hP hS (lv_sub hl [2, 3, 4, 1, 0] rfl)
def fX0_meanEnd_9B (σ : St) (rec9 : Int32 → Int32 → Int32 → Int32 → Int32 → Option Int32) (x2 : Int32) (x3 : Int32) (x4 : Int32) (x5 : Int32) (x6 : Int32) : Option Int32 :=
(if (nI (stN 5)) ≤ x6 then
(if x5 ≤ 0 then
some (-1)
else
(nz x5 (
some (x4 / x5))))
else
(rdK (stN 5) (σ (5 + 1)) x6 fun v4 =>
(if v4 ≤ 0 then
rec9 x2 x3 x4 x5 (x6 + 1)
else
(if x3 = 0 then
(cq (fX0_least σ x6 x2) fun r8 =>
rec9 x2 x3 (x4 + r8) (x5 + 1) (x6 + 1))
else
(cq (fX0_greatest σ x6 x2) fun r10 =>
rec9 x2 x3 (x4 + r10) (x5 + 1) (x6 + 1))))))
set_option maxHeartbeats 4000000 in
theorem b_fX0_meanEnd_9B {E : Ev} {l : Launch} {p : Program} {e : Env} {s : State} {m : MethodId} {args : Array Value} {below : List Frame} {meth : Method} {c : Code} (σ : St) (C : CX true E RX0 cX0_meanEnd 7 (some .int) p s m args meth c) {rr : Int32} (rec9 : Int32 → Int32 → Int32 → Int32 → Int32 → Option Int32) (hr9 : ∀  (x2 : Int32) (x3 : Int32) (x4 : Int32) (x5 : Int32) (x6 : Int32), rec9 x2 x3 x4 x5 x6 = some rr → GW true l (rmD 4) E 7 p e s m args below meth c (MQ below (QI true E rr σ s.heap.size) args s 0 0 (aW true E s.heap.size)) σ 9 [(0, .ref (ea E 34)), (1, .ref (ea E 5)), (2, .int x2), (3, .int x3), (4, .int x4), (5, .int x5), (6, .int x6)] []) : ∀  (x2 : Int32) (x3 : Int32) (x4 : Int32) (x5 : Int32) (x6 : Int32), fX0_meanEnd_9B σ rec9 x2 x3 x4 x5 x6 = some rr → GW true l (rmD 4) E 7 p e s m args below meth c (MQ below (QI true E rr σ s.heap.size) args s 0 0 (aW true E s.heap.size)) σ 9 [(0, .ref (ea E 34)), (1, .ref (ea E 5)), (2, .int x2), (3, .int x3), (4, .int x4), (5, .int x5), (6, .int x6)] [] := by
  intro x2 x3 x4 x5 x6 hf H locs ls hP hS hl
  obtain ⟨hx, hb, hr, hml, hown, hts, hlocks, hK, hX, hj⟩ := id C
  unfold fX0_meanEnd_9B at hf
  refine lv_iload hx hb dX0_meanEnd_9 (lv_at hl 6 rfl) ?_
  refine lv_aload_n hx hb dX0_meanEnd_11 rfl (lv_at hl 1 rfl) ?_
  refine r_get (k := 3) (v := .ref (ea E (5 + 1))) C hP (oS fS_5) rfl iX8 (by decide) wm_t59 rfl rfl dX0_meanEnd_12 ?_
  refine r_alen (v := (nI (stN 5))) C hP (aS_1 fS_5) rfl dX0_meanEnd_15 ?_
  refine lv_icmp_ge (tgt := 64) hx hb dX0_meanEnd_16 (by decide) (fun c1 => ?_) (fun c1 => ?_)
  · replace hf := it_t c1 hf
    refine lv_iload hx hb dX0_meanEnd_64 (lv_at hl 5 rfl) ?_
    refine lv_if_le (tgt := 77) hx hb dX0_meanEnd_66 (by decide) (fun c2 => ?_) (fun c2 => ?_)
    · replace hf := it_t c2 hf
      refine lv_iconst (v := (-1)) hx hb dX0_meanEnd_77 (by decide) ?_
      cases hf
      exact r_iret C hP hS dX0_meanEnd_78
    · replace hf := it_f c2 hf
      refine lv_iload hx hb dX0_meanEnd_69 (lv_at hl 4 rfl) ?_
      refine lv_iload hx hb dX0_meanEnd_71 (lv_at hl 5 rfl) ?_
      obtain ⟨h3, hf⟩ := nz_e hf
      refine lv_idiv hx hb dX0_meanEnd_73 h3 ?_
      refine lv_goto (tgt := 78) hx hb dX0_meanEnd_74 (by decide) ?_
      cases hf
      exact r_iret C hP hS dX0_meanEnd_78
  · replace hf := it_f c1 hf
    refine lv_aload_n hx hb dX0_meanEnd_19 rfl (lv_at hl 1 rfl) ?_
    refine r_get (k := 3) (v := .ref (ea E (5 + 1))) C hP (oS fS_5) rfl iX8 (by decide) wm_t59 rfl rfl dX0_meanEnd_20 ?_
    refine lv_iload hx hb dX0_meanEnd_23 (lv_at hl 6 rfl) ?_
    have h5 := (rdK_e hf).1
    refine r_ald C hP (aS_1 fS_5) h5 dX0_meanEnd_25 ?_
    refine lv_topi (fun v4 ev4 => ?_)
    replace hf := rdK_n ev4 hf
    refine lv_if_le (tgt := 58) hx hb dX0_meanEnd_26 (by decide) (fun c6 => ?_) (fun c6 => ?_)
    · replace hf := it_t c6 hf
      refine lv_iinc (v := (x6 + 1)) (lv' := [(6, .int (x6 + 1)), (0, .ref (ea E 34)), (1, .ref (ea E 5)), (2, .int x2), (3, .int x3), (4, .int x4), (5, .int x5)]) hx hb dX0_meanEnd_58 hl (k := 6) rfl rfl (by decide) rfl (fun ls hl => ?_)
      refine lv_goto (tgt := 9) hx hb dX0_meanEnd_61 (by decide) ?_
      exact hr9 x2 x3 x4 x5 (x6 + 1) hf H locs ls hP hS (lv_sub hl [1, 2, 3, 4, 5, 6, 0] rfl)
    · replace hf := it_f c6 hf
      refine lv_iload hx hb dX0_meanEnd_29 (lv_at hl 4 rfl) ?_
      refine lv_iload_n hx hb dX0_meanEnd_31 rfl (lv_at hl 3 rfl) ?_
      refine lv_if_eq (tgt := 45) hx hb dX0_meanEnd_32 (by decide) (fun c7 => ?_) (fun c7 => ?_)
      · replace hf := it_t c7 hf
        refine lv_aload_n hx hb dX0_meanEnd_45 rfl (lv_at hl 0 rfl) ?_
        refine lv_iload hx hb dX0_meanEnd_46 (lv_at hl 6 rfl) ?_
        refine lv_iload_n hx hb dX0_meanEnd_48 rfl (lv_at hl 2 rfl) ?_
        obtain ⟨r8, hc9, hf⟩ := cq_e hf
        refine r_cVi (n := 2) (As := [.int x6, .int x2]) (rest := [.int x4]) C (c_fX0_least hj σ H.size x6 x2 hc9) oC_34 rfl gv_RX0_52 (by decide +kernel) ⟨rfl, rfl, by decide, by decide⟩ rfl rfl (Nat.le_of_ble_eq_true rfl) dX0_meanEnd_49 hP hS hl.1 (fun H locs hP hS => ?_)
        refine lv_iadd hx hb dX0_meanEnd_52 ?_
        refine lv_istore (lv' := [(4, .int (x4 + r8)), (0, .ref (ea E 34)), (1, .ref (ea E 5)), (2, .int x2), (3, .int x3), (5, .int x5), (6, .int x6)]) hx hb dX0_meanEnd_53 hl (by decide) rfl (fun ls hl => ?_)
        refine lv_iinc (v := (x5 + 1)) (lv' := [(5, .int (x5 + 1)), (4, .int (x4 + r8)), (0, .ref (ea E 34)), (1, .ref (ea E 5)), (2, .int x2), (3, .int x3), (6, .int x6)]) hx hb dX0_meanEnd_55 hl (k := 5) rfl rfl (by decide) rfl (fun ls hl => ?_)
        refine lv_iinc (v := (x6 + 1)) (lv' := [(6, .int (x6 + 1)), (5, .int (x5 + 1)), (4, .int (x4 + r8)), (0, .ref (ea E 34)), (1, .ref (ea E 5)), (2, .int x2), (3, .int x3)]) hx hb dX0_meanEnd_58 hl (k := 6) rfl rfl (by decide) rfl (fun ls hl => ?_)
        refine lv_goto (tgt := 9) hx hb dX0_meanEnd_61 (by decide) ?_
        exact hr9 x2 x3 (x4 + r8) (x5 + 1) (x6 + 1) hf H locs ls hP hS (lv_sub hl [3, 4, 5, 6, 2, 1, 0] rfl)
      · replace hf := it_f c7 hf
        refine lv_aload_n hx hb dX0_meanEnd_35 rfl (lv_at hl 0 rfl) ?_
        refine lv_iload hx hb dX0_meanEnd_36 (lv_at hl 6 rfl) ?_
        refine lv_iload_n hx hb dX0_meanEnd_38 rfl (lv_at hl 2 rfl) ?_
        obtain ⟨r10, hc11, hf⟩ := cq_e hf
        refine r_cVi (n := 2) (As := [.int x6, .int x2]) (rest := [.int x4]) C (c_fX0_greatest hj σ H.size x6 x2 hc11) oC_34 rfl gv_RX0_49 (by decide +kernel) ⟨rfl, rfl, by decide, by decide⟩ rfl rfl (Nat.le_of_ble_eq_true rfl) dX0_meanEnd_39 hP hS hl.1 (fun H locs hP hS => ?_)
        refine lv_goto (tgt := 52) hx hb dX0_meanEnd_42 (by decide) ?_
        refine lv_iadd hx hb dX0_meanEnd_52 ?_
        refine lv_istore (lv' := [(4, .int (x4 + r10)), (0, .ref (ea E 34)), (1, .ref (ea E 5)), (2, .int x2), (3, .int x3), (5, .int x5), (6, .int x6)]) hx hb dX0_meanEnd_53 hl (by decide) rfl (fun ls hl => ?_)
        refine lv_iinc (v := (x5 + 1)) (lv' := [(5, .int (x5 + 1)), (4, .int (x4 + r10)), (0, .ref (ea E 34)), (1, .ref (ea E 5)), (2, .int x2), (3, .int x3), (6, .int x6)]) hx hb dX0_meanEnd_55 hl (k := 5) rfl rfl (by decide) rfl (fun ls hl => ?_)
        refine lv_iinc (v := (x6 + 1)) (lv' := [(6, .int (x6 + 1)), (5, .int (x5 + 1)), (4, .int (x4 + r10)), (0, .ref (ea E 34)), (1, .ref (ea E 5)), (2, .int x2), (3, .int x3)]) hx hb dX0_meanEnd_58 hl (k := 6) rfl rfl (by decide) rfl (fun ls hl => ?_)
        refine lv_goto (tgt := 9) hx hb dX0_meanEnd_61 (by decide) ?_
        exact hr9 x2 x3 (x4 + r10) (x5 + 1) (x6 + 1) hf H locs ls hP hS (lv_sub hl [3, 4, 5, 6, 2, 1, 0] rfl)
def fX0_meanEnd_9 (σ : St) : Nat → Int32 → Int32 → Int32 → Int32 → Int32 → Option Int32
  | 0 => fun _ _ _ _ _ => none
  | n + 1 => fun x2 x3 x4 x5 x6 => fX0_meanEnd_9B σ (fX0_meanEnd_9 σ n) x2 x3 x4 x5 x6
theorem b_fX0_meanEnd_9 {E : Ev} {l : Launch} {p : Program} {e : Env} {s : State} {m : MethodId} {args : Array Value} {below : List Frame} {meth : Method} {c : Code} (σ : St) (C : CX true E RX0 cX0_meanEnd 7 (some .int) p s m args meth c) {rr : Int32} : ∀ (n : Nat) (x2 : Int32) (x3 : Int32) (x4 : Int32) (x5 : Int32) (x6 : Int32), fX0_meanEnd_9 σ n x2 x3 x4 x5 x6 = some rr → GW true l (rmD 4) E 7 p e s m args below meth c (MQ below (QI true E rr σ s.heap.size) args s 0 0 (aW true E s.heap.size)) σ 9 [(0, .ref (ea E 34)), (1, .ref (ea E 5)), (2, .int x2), (3, .int x3), (4, .int x4), (5, .int x5), (6, .int x6)] [] := by
  intro n
  induction n with
  | zero => intro x2 x3 x4 x5 x6 hf; have hf : (none : Option _) = some _ := hf; cases hf
  | succ n ih => intro x2 x3 x4 x5 x6 hf; exact b_fX0_meanEnd_9B σ C (fX0_meanEnd_9 σ n) ih x2 x3 x4 x5 x6 hf
def fX0_meanEnd (σ : St) (a1 : Int32) (a2 : Int32) : Option Int32 :=
fX0_meanEnd_9 σ FU a1 a2 0 0 0
set_option maxHeartbeats 4000000 in
theorem c_fX0_meanEnd {E : Ev} {l : Launch} (hj : jW true E) (σ : St) (sz : Nat) (a1 : Int32) (a2 : Int32) {rr : Int32} (hf : fX0_meanEnd σ a1 a2 = some rr) : Met l yX0_meanEnd (Cond.code yX0_meanEnd cX0_meanEnd 7 (some .int) :: gT) (rmD 4) (va_Pc [.ref (ea E 34), .ref (ea E 5), .int a1, .int a2] (preW true E σ sz)) (QI true E rr σ sz) 0 0 (aW true E sz) := by
  refine r_entry (QI true E rr σ) hj (by decide) [.ref (ea E 34), .ref (ea E 5), .int a1, .int a2] (Nat.le_of_ble_eq_true rfl) (fun p e s m args below meth c C => ?_)
  intro H locs ls hP hS hl
  have hl : lv_has ls 7 [(0, .ref (ea E 34)), (1, .ref (ea E 5)), (2, .int a1), (3, .int a2)] := hl
  obtain ⟨hx, hb, hr, hml, hown, hts, hlocks, hK, hX, hj⟩ := id C
  unfold fX0_meanEnd at hf
  refine lv_iconst (v := 0) hx hb dX0_meanEnd_0 (by decide) ?_
  refine lv_istore (lv' := [(4, .int 0), (0, .ref (ea E 34)), (1, .ref (ea E 5)), (2, .int a1), (3, .int a2)]) hx hb dX0_meanEnd_1 hl (by decide) rfl (fun ls hl => ?_)
  refine lv_iconst (v := 0) hx hb dX0_meanEnd_3 (by decide) ?_
  refine lv_istore (lv' := [(5, .int 0), (4, .int 0), (0, .ref (ea E 34)), (1, .ref (ea E 5)), (2, .int a1), (3, .int a2)]) hx hb dX0_meanEnd_4 hl (by decide) rfl (fun ls hl => ?_)
  refine lv_iconst (v := 0) hx hb dX0_meanEnd_6 (by decide) ?_
  refine lv_istore (lv' := [(6, .int 0), (5, .int 0), (4, .int 0), (0, .ref (ea E 34)), (1, .ref (ea E 5)), (2, .int a1), (3, .int a2)]) hx hb dX0_meanEnd_7 hl (by decide) rfl (fun ls hl => ?_)
  exact b_fX0_meanEnd_9 σ C FU a1 a2 0 0 0 hf H locs ls hP hS (lv_sub hl [3, 4, 5, 6, 2, 1, 0] rfl)
def fX3_tell (σ : St) (a0 : Int32) (a1 : Int32) : Option (Int32 × St) :=
(if (fX10_within a0 8) = 0 then
some (0, σ)
else
(wrK 8 σ 39 a0 a1 fun σ2 =>
some (1, σ2)))
set_option maxHeartbeats 4000000 in
theorem c_fX3_tell {E : Ev} {l : Launch} (hj : jW true E) (σ : St) (sz : Nat) (a0 : Int32) (a1 : Int32) {rr : Int32} {sr : St} (hf : fX3_tell σ a0 a1 = some (rr, sr)) : Met l yX3_tell (Cond.code yX3_tell cX3_tell 3 (some .boolean) :: gT) (rmD 2) (va_Pc [.ref (ea E 38), .int a0, .int a1] (preW true E σ sz)) (QI true E rr sr sz) 0 0 (aW true E sz) := by
  refine r_entry (QI true E rr sr) hj (by decide) [.ref (ea E 38), .int a0, .int a1] (Nat.le_of_ble_eq_true rfl) (fun p e s m args below meth c C => ?_)
  intro H locs ls hP hS hl
  have hl : lv_has ls 3 [(0, .ref (ea E 38)), (1, .int a0), (2, .int a1)] := hl
  obtain ⟨hx, hb, hr, hml, hown, hts, hlocks, hK, hX, hj⟩ := id C
  unfold fX3_tell at hf
  refine lv_iload_n hx hb dX3_tell_0 rfl (lv_at hl 1 rfl) ?_
  refine lv_bipush (v := 8) hx hb dX3_tell_1 (by decide) ?_
  refine r_cNi (n := 2) (As := [.int a0, .int 8]) (rest := []) (host := "SoupCargo") C (c_fX10_within hj σ H.size a0 8) (by decide +kernel) wm_t343 wm_t1 wm_t342 (by decide +kernel) ⟨rfl, rfl, by decide, by decide⟩ rfl rfl (Nat.le_of_ble_eq_true rfl) dX3_tell_3 hP hS hl.1 (fun H locs hP hS => ?_)
  refine lv_if_ne (tgt := 11) hx hb dX3_tell_6 (by decide) (fun c1 => ?_) (fun c1 => ?_)
  · replace hf := it_f c1 hf
    refine lv_aload_n hx hb dX3_tell_11 rfl (lv_at hl 0 rfl) ?_
    refine r_get (k := 0) (v := .ref (ea E 39)) C hP oC_38 rfl iX3 (by decide) wm_t270 rfl rfl dX3_tell_12 ?_
    refine lv_iload_n hx hb dX3_tell_15 rfl (lv_at hl 1 rfl) ?_
    refine lv_iload_n hx hb dX3_tell_16 rfl (lv_at hl 2 rfl) ?_
    obtain ⟨h3, σ2, eσ2, hf⟩ := wrK_e hf
    refine r_ast C hP hS aC_39 h3 dX3_tell_17 (fun H locs hP hS => ?_)
    rw [← eσ2] at hP
    refine lv_iconst (v := 1) hx hb dX3_tell_18 (by decide) ?_
    cases hf
    exact r_zret C rfl hP hS dX3_tell_19
  · replace hf := it_t c1 hf
    refine lv_iconst (v := 0) hx hb dX3_tell_9 (by decide) ?_
    cases hf
    exact r_zret C rfl hP hS dX3_tell_10
def fX3_findNeeded_24B (rec24 : St → Int32 → Int32 → Option St) (σ : St) (x2 : Int32) (x3 : Int32) : Option St :=
(if (nI (stN 5)) ≤ x3 then
some σ
else
(rdK (stN 5) (σ (5 + 1)) x3 fun v2 =>
(if v2 ≤ 0 then
rec24 σ x2 (x3 + 1)
else
(cq (fX3_nearTo σ x3 x2) fun r5 =>
(wrK 256 σ 40 r5 (vp_nar .boolean 1) fun σ7 =>
rec24 σ7 x2 (x3 + 1))))))
set_option maxHeartbeats 4000000 in
theorem b_fX3_findNeeded_24B {E : Ev} {l : Launch} {p : Program} {e : Env} {s : State} {m : MethodId} {args : Array Value} {below : List Frame} {meth : Method} {c : Code} (C : CX true E RX3 cX3_findNeeded 4 none p s m args meth c) {sr : St} (rec24 : St → Int32 → Int32 → Option St) (hr24 : ∀ (σ : St) (x2 : Int32) (x3 : Int32), rec24 σ x2 x3 = some sr → GW true l (rmD 4) E 4 p e s m args below meth c (MQ below (QV true E sr s.heap.size) args s 0 0 (aW true E s.heap.size)) σ 24 [(0, .ref (ea E 38)), (1, .ref (ea E 5)), (2, .int x2), (3, .int x3)] []) : ∀ (σ : St) (x2 : Int32) (x3 : Int32), fX3_findNeeded_24B rec24 σ x2 x3 = some sr → GW true l (rmD 4) E 4 p e s m args below meth c (MQ below (QV true E sr s.heap.size) args s 0 0 (aW true E s.heap.size)) σ 24 [(0, .ref (ea E 38)), (1, .ref (ea E 5)), (2, .int x2), (3, .int x3)] [] := by
  intro σ x2 x3 hf H locs ls hP hS hl
  obtain ⟨hx, hb, hr, hml, hown, hts, hlocks, hK, hX, hj⟩ := id C
  unfold fX3_findNeeded_24B at hf
  refine lv_iload_n hx hb dX3_findNeeded_24 rfl (lv_at hl 3 rfl) ?_
  refine lv_aload_n hx hb dX3_findNeeded_25 rfl (lv_at hl 1 rfl) ?_
  refine r_get (k := 3) (v := .ref (ea E (5 + 1))) C hP (oS fS_5) rfl iX8 (by decide) wm_t56 rfl rfl dX3_findNeeded_26 ?_
  refine r_alen (v := (nI (stN 5))) C hP (aS_1 fS_5) rfl dX3_findNeeded_29 ?_
  refine lv_icmp_ge (tgt := 60) hx hb dX3_findNeeded_30 (by decide) (fun c1 => ?_) (fun c1 => ?_)
  · replace hf := it_t c1 hf
    cases hf
    exact r_vret C hP hS dX3_findNeeded_60
  · replace hf := it_f c1 hf
    refine lv_aload_n hx hb dX3_findNeeded_33 rfl (lv_at hl 1 rfl) ?_
    refine r_get (k := 3) (v := .ref (ea E (5 + 1))) C hP (oS fS_5) rfl iX8 (by decide) wm_t56 rfl rfl dX3_findNeeded_34 ?_
    refine lv_iload_n hx hb dX3_findNeeded_37 rfl (lv_at hl 3 rfl) ?_
    have h3 := (rdK_e hf).1
    refine r_ald C hP (aS_1 fS_5) h3 dX3_findNeeded_38 ?_
    refine lv_topi (fun v2 ev2 => ?_)
    replace hf := rdK_n ev2 hf
    refine lv_if_le (tgt := 54) hx hb dX3_findNeeded_39 (by decide) (fun c4 => ?_) (fun c4 => ?_)
    · replace hf := it_t c4 hf
      refine lv_iinc (v := (x3 + 1)) (lv' := [(3, .int (x3 + 1)), (0, .ref (ea E 38)), (1, .ref (ea E 5)), (2, .int x2)]) hx hb dX3_findNeeded_54 hl (k := 3) rfl rfl (by decide) rfl (fun ls hl => ?_)
      refine lv_goto (tgt := 24) hx hb dX3_findNeeded_57 (by decide) ?_
      exact hr24 σ x2 (x3 + 1) hf H locs ls hP hS (lv_sub hl [1, 2, 3, 0] rfl)
    · replace hf := it_f c4 hf
      refine lv_aload_n hx hb dX3_findNeeded_42 rfl (lv_at hl 0 rfl) ?_
      refine r_get (k := 1) (v := .ref (ea E 40)) C hP oC_38 rfl iX3 (by decide) wm_t271 rfl rfl dX3_findNeeded_43 ?_
      refine lv_aload_n hx hb dX3_findNeeded_46 rfl (lv_at hl 0 rfl) ?_
      refine lv_iload_n hx hb dX3_findNeeded_47 rfl (lv_at hl 3 rfl) ?_
      refine lv_iload_n hx hb dX3_findNeeded_48 rfl (lv_at hl 2 rfl) ?_
      obtain ⟨r5, hc6, hf⟩ := cq_e hf
      refine r_cVi (n := 2) (As := [.int x3, .int x2]) (rest := [.ref (ea E 40)]) C (c_fX3_nearTo hj σ H.size x3 x2 hc6) oC_38 rfl gv_RX3_42 (by decide +kernel) ⟨rfl, rfl, by decide, by decide⟩ rfl rfl (Nat.le_of_ble_eq_true rfl) dX3_findNeeded_49 hP hS hl.1 (fun H locs hP hS => ?_)
      refine lv_iconst (v := 1) hx hb dX3_findNeeded_52 (by decide) ?_
      obtain ⟨h8, σ7, eσ7, hf⟩ := wrK_e hf
      refine r_zast C hP hS aC_40 h8 dX3_findNeeded_53 (fun H locs hP hS => ?_)
      rw [← eσ7] at hP
      refine lv_iinc (v := (x3 + 1)) (lv' := [(3, .int (x3 + 1)), (0, .ref (ea E 38)), (1, .ref (ea E 5)), (2, .int x2)]) hx hb dX3_findNeeded_54 hl (k := 3) rfl rfl (by decide) rfl (fun ls hl => ?_)
      refine lv_goto (tgt := 24) hx hb dX3_findNeeded_57 (by decide) ?_
      exact hr24 σ7 x2 (x3 + 1) hf H locs ls hP hS (lv_sub hl [1, 2, 3, 0] rfl)
def fX3_findNeeded_24 : Nat → St → Int32 → Int32 → Option St
  | 0 => fun _ _ _ => none
  | n + 1 => fun σ x2 x3 => fX3_findNeeded_24B (fX3_findNeeded_24 n) σ x2 x3
theorem b_fX3_findNeeded_24 {E : Ev} {l : Launch} {p : Program} {e : Env} {s : State} {m : MethodId} {args : Array Value} {below : List Frame} {meth : Method} {c : Code} (C : CX true E RX3 cX3_findNeeded 4 none p s m args meth c) {sr : St} : ∀ (n : Nat) (σ : St) (x2 : Int32) (x3 : Int32), fX3_findNeeded_24 n σ x2 x3 = some sr → GW true l (rmD 4) E 4 p e s m args below meth c (MQ below (QV true E sr s.heap.size) args s 0 0 (aW true E s.heap.size)) σ 24 [(0, .ref (ea E 38)), (1, .ref (ea E 5)), (2, .int x2), (3, .int x3)] [] := by
  intro n
  induction n with
  | zero => intro σ x2 x3 hf; have hf : (none : Option _) = some _ := hf; cases hf
  | succ n ih => intro σ x2 x3 hf; exact b_fX3_findNeeded_24B C (fX3_findNeeded_24 n) ih σ x2 x3 hf
def fX3_findNeeded_2B (rec2 : St → Int32 → Int32 → Option St) (σ : St) (x2 : Int32) (x3 : Int32) : Option St :=
(if 256 ≤ x3 then
fX3_findNeeded_24 FU σ x2 0
else
(wrK 256 σ 40 x3 (vp_nar .boolean 0) fun σ2 =>
rec2 σ2 x2 (x3 + 1)))
set_option maxHeartbeats 4000000 in
theorem b_fX3_findNeeded_2B {E : Ev} {l : Launch} {p : Program} {e : Env} {s : State} {m : MethodId} {args : Array Value} {below : List Frame} {meth : Method} {c : Code} (C : CX true E RX3 cX3_findNeeded 4 none p s m args meth c) {sr : St} (rec2 : St → Int32 → Int32 → Option St) (hr2 : ∀ (σ : St) (x2 : Int32) (x3 : Int32), rec2 σ x2 x3 = some sr → GW true l (rmD 4) E 4 p e s m args below meth c (MQ below (QV true E sr s.heap.size) args s 0 0 (aW true E s.heap.size)) σ 2 [(0, .ref (ea E 38)), (1, .ref (ea E 5)), (2, .int x2), (3, .int x3)] []) : ∀ (σ : St) (x2 : Int32) (x3 : Int32), fX3_findNeeded_2B rec2 σ x2 x3 = some sr → GW true l (rmD 4) E 4 p e s m args below meth c (MQ below (QV true E sr s.heap.size) args s 0 0 (aW true E s.heap.size)) σ 2 [(0, .ref (ea E 38)), (1, .ref (ea E 5)), (2, .int x2), (3, .int x3)] [] := by
  intro σ x2 x3 hf H locs ls hP hS hl
  obtain ⟨hx, hb, hr, hml, hown, hts, hlocks, hK, hX, hj⟩ := id C
  unfold fX3_findNeeded_2B at hf
  refine lv_iload_n hx hb dX3_findNeeded_2 rfl (lv_at hl 3 rfl) ?_
  refine lv_sipush (v := 256) hx hb dX3_findNeeded_3 (by decide) ?_
  refine lv_icmp_ge (tgt := 22) hx hb dX3_findNeeded_6 (by decide) (fun c1 => ?_) (fun c1 => ?_)
  · replace hf := it_t c1 hf
    refine lv_iconst (v := 0) hx hb dX3_findNeeded_22 (by decide) ?_
    refine lv_istore_n (lv' := [(3, .int 0), (0, .ref (ea E 38)), (1, .ref (ea E 5)), (2, .int x2)]) hx hb dX3_findNeeded_23 rfl hl (by decide) rfl (fun ls hl => ?_)
    exact b_fX3_findNeeded_24 C FU σ x2 0 hf H locs ls hP hS (lv_sub hl [1, 2, 3, 0] rfl)
  · replace hf := it_f c1 hf
    refine lv_aload_n hx hb dX3_findNeeded_9 rfl (lv_at hl 0 rfl) ?_
    refine r_get (k := 1) (v := .ref (ea E 40)) C hP oC_38 rfl iX3 (by decide) wm_t271 rfl rfl dX3_findNeeded_10 ?_
    refine lv_iload_n hx hb dX3_findNeeded_13 rfl (lv_at hl 3 rfl) ?_
    refine lv_iconst (v := 0) hx hb dX3_findNeeded_14 (by decide) ?_
    obtain ⟨h3, σ2, eσ2, hf⟩ := wrK_e hf
    refine r_zast C hP hS aC_40 h3 dX3_findNeeded_15 (fun H locs hP hS => ?_)
    rw [← eσ2] at hP
    refine lv_iinc (v := (x3 + 1)) (lv' := [(3, .int (x3 + 1)), (0, .ref (ea E 38)), (1, .ref (ea E 5)), (2, .int x2)]) hx hb dX3_findNeeded_16 hl (k := 3) rfl rfl (by decide) rfl (fun ls hl => ?_)
    refine lv_goto (tgt := 2) hx hb dX3_findNeeded_19 (by decide) ?_
    exact hr2 σ2 x2 (x3 + 1) hf H locs ls hP hS (lv_sub hl [1, 2, 3, 0] rfl)
def fX3_findNeeded_2 : Nat → St → Int32 → Int32 → Option St
  | 0 => fun _ _ _ => none
  | n + 1 => fun σ x2 x3 => fX3_findNeeded_2B (fX3_findNeeded_2 n) σ x2 x3
theorem b_fX3_findNeeded_2 {E : Ev} {l : Launch} {p : Program} {e : Env} {s : State} {m : MethodId} {args : Array Value} {below : List Frame} {meth : Method} {c : Code} (C : CX true E RX3 cX3_findNeeded 4 none p s m args meth c) {sr : St} : ∀ (n : Nat) (σ : St) (x2 : Int32) (x3 : Int32), fX3_findNeeded_2 n σ x2 x3 = some sr → GW true l (rmD 4) E 4 p e s m args below meth c (MQ below (QV true E sr s.heap.size) args s 0 0 (aW true E s.heap.size)) σ 2 [(0, .ref (ea E 38)), (1, .ref (ea E 5)), (2, .int x2), (3, .int x3)] [] := by
  intro n
  induction n with
  | zero => intro σ x2 x3 hf; have hf : (none : Option _) = some _ := hf; cases hf
  | succ n ih => intro σ x2 x3 hf; exact b_fX3_findNeeded_2B C (fX3_findNeeded_2 n) ih σ x2 x3 hf
def fX3_findNeeded (σ : St) (a1 : Int32) : Option St :=
fX3_findNeeded_2 FU σ a1 0
set_option maxHeartbeats 4000000 in
theorem c_fX3_findNeeded {E : Ev} {l : Launch} (hj : jW true E) (σ : St) (sz : Nat) (a1 : Int32) {sr : St} (hf : fX3_findNeeded σ a1 = some sr) : Met l yX3_findNeeded (Cond.code yX3_findNeeded cX3_findNeeded 4 none :: gT) (rmD 4) (va_Pc [.ref (ea E 38), .ref (ea E 5), .int a1] (preW true E σ sz)) (QV true E sr sz) 0 0 (aW true E sz) := by
  refine r_entry (QV true E sr) hj (by decide) [.ref (ea E 38), .ref (ea E 5), .int a1] (Nat.le_of_ble_eq_true rfl) (fun p e s m args below meth c C => ?_)
  intro H locs ls hP hS hl
  have hl : lv_has ls 4 [(0, .ref (ea E 38)), (1, .ref (ea E 5)), (2, .int a1)] := hl
  obtain ⟨hx, hb, hr, hml, hown, hts, hlocks, hK, hX, hj⟩ := id C
  unfold fX3_findNeeded at hf
  refine lv_iconst (v := 0) hx hb dX3_findNeeded_0 (by decide) ?_
  refine lv_istore_n (lv' := [(3, .int 0), (0, .ref (ea E 38)), (1, .ref (ea E 5)), (2, .int a1)]) hx hb dX3_findNeeded_1 rfl hl (by decide) rfl (fun ls hl => ?_)
  exact b_fX3_findNeeded_2 C FU σ a1 0 hf H locs ls hP hS (lv_sub hl [1, 2, 3, 0] rfl)
def fX4_personPart (σ : St) (a0 : Int32) : Option (Int32 × St) :=
(if (fX4_numberHere σ) = (-1) then
(cb (fX4_fail σ 1) fun r11 σ13 =>
(zb r11 (some (r11, σ13))))
else
(if (fX4_numberHere σ) < 4 then
(cv (fX4_advance σ) fun σ4 =>
(gw (σ4 24 7) fun w5 =>
(cv (fX9_beginLine w5 σ4 a0 (fX4_numberHere σ)) fun σ7 =>
some (1, σ7))))
else
(cb (fX4_fail σ 2) fun r8 σ10 =>
(zb r8 (some (r8, σ10))))))
set_option maxHeartbeats 4000000 in
theorem c_fX4_personPart {E : Ev} {l : Launch} (hj : jW true E) (σ : St) (sz : Nat) (a0 : Int32) {rr : Int32} {sr : St} (hf : fX4_personPart σ a0 = some (rr, sr)) : Met l yX4_personPart (Cond.code yX4_personPart cX4_personPart 3 (some .boolean) :: gT) (rmD 2) (va_Pc [.ref (ea E 24), .int a0] (preW true E σ sz)) (QI true E rr sr sz) 0 0 (aW true E sz) := by
  refine r_entry (QI true E rr sr) hj (by decide) [.ref (ea E 24), .int a0] (Nat.le_of_ble_eq_true rfl) (fun p e s m args below meth c C => ?_)
  intro H locs ls hP hS hl
  have hl : lv_has ls 3 [(0, .ref (ea E 24)), (1, .int a0)] := hl
  obtain ⟨hx, hb, hr, hml, hown, hts, hlocks, hK, hX, hj⟩ := id C
  unfold fX4_personPart at hf
  refine lv_aload_n hx hb dX4_personPart_0 rfl (lv_at hl 0 rfl) ?_
  refine r_cVi (n := 0) (As := []) (rest := []) C (c_fX4_numberHere hj σ H.size) oC_24 rfl gv_RX4_136 (by decide +kernel) ⟨rfl, rfl, by decide, by decide⟩ rfl rfl (Nat.le_of_ble_eq_true rfl) dX4_personPart_1 hP hS hl.1 (fun H locs hP hS => ?_)
  refine lv_istore_n (lv' := [(2, .int (fX4_numberHere σ)), (0, .ref (ea E 24)), (1, .int a0)]) hx hb dX4_personPart_4 rfl hl (by decide) rfl (fun ls hl => ?_)
  refine lv_iload_n hx hb dX4_personPart_5 rfl (lv_at hl 0 rfl) ?_
  refine lv_iconst (v := (-1)) hx hb dX4_personPart_6 (by decide) ?_
  refine lv_icmp_ne (tgt := 16) hx hb dX4_personPart_7 (by decide) (fun c1 => ?_) (fun c1 => ?_)
  · replace hf := it_f c1 hf
    refine lv_iload_n hx hb dX4_personPart_16 rfl (lv_at hl 0 rfl) ?_
    refine lv_iconst (v := 4) hx hb dX4_personPart_17 (by decide) ?_
    refine lv_icmp_lt (tgt := 27) hx hb dX4_personPart_18 (by decide) (fun c2 => ?_) (fun c2 => ?_)
    · replace hf := it_t c2 hf
      refine lv_aload_n hx hb dX4_personPart_27 rfl (lv_at hl 1 rfl) ?_
      obtain ⟨σ4, hc3, hf⟩ := cv_e hf
      refine r_cVv (n := 0) (As := []) (rest := []) C (c_fX4_advance hj σ H.size hc3) oC_24 rfl gv_RX4_95 (by decide +kernel) ⟨rfl, rfl, by decide, by decide⟩ rfl rfl (Nat.le_of_ble_eq_true rfl) dX4_personPart_28 hP hS hl.1 (fun H locs hP hS => ?_)
      refine lv_aload_n hx hb dX4_personPart_31 rfl (lv_at hl 1 rfl) ?_
      refine r_get (k := 7) (v := .ref (ea E (σ4 24 7).toNatClampNeg)) C hP oC_24 rfl iX4 (by decide) wm_t169 rfl rfl dX4_personPart_32 ?_
      obtain ⟨w5, ew5, hw5, hf⟩ := gw_e hf
      rw [ew5]
      refine lv_iload_n hx hb dX4_personPart_35 rfl (lv_at hl 2 rfl) ?_
      refine lv_iload_n hx hb dX4_personPart_36 rfl (lv_at hl 0 rfl) ?_
      obtain ⟨σ7, hc6, hf⟩ := cv_e hf
      refine r_cVv (n := 2) (As := [.int a0, .int (fX4_numberHere σ)]) (rest := []) C (c_fX9_beginLine hw5 hj σ4 H.size a0 (fX4_numberHere σ) hc6) (oW hw5) rfl gv_RX4_129 (by decide +kernel) ⟨rfl, rfl, by decide, by decide⟩ rfl rfl (Nat.le_of_ble_eq_true rfl) dX4_personPart_37 hP hS hl.1 (fun H locs hP hS => ?_)
      refine lv_iconst (v := 1) hx hb dX4_personPart_40 (by decide) ?_
      cases hf
      exact r_zret C rfl hP hS dX4_personPart_41
    · replace hf := it_f c2 hf
      refine lv_aload_n hx hb dX4_personPart_21 rfl (lv_at hl 1 rfl) ?_
      refine lv_iconst (v := 2) hx hb dX4_personPart_22 (by decide) ?_
      obtain ⟨r8, σ10, hc9, hf⟩ := cb_e hf
      refine r_cVi (n := 1) (As := [.int 2]) (rest := []) C (c_fX4_fail hj σ H.size 2 hc9) oC_24 rfl gv_RX4_105 (by decide +kernel) ⟨rfl, rfl, by decide, by decide⟩ rfl rfl (Nat.le_of_ble_eq_true rfl) dX4_personPart_23 hP hS hl.1 (fun H locs hP hS => ?_)
      obtain ⟨hz, hf⟩ := zb_e hf
      cases hf
      exact r_zret C (zb_nar hz) hP hS dX4_personPart_26
  · replace hf := it_t c1 hf
    refine lv_aload_n hx hb dX4_personPart_10 rfl (lv_at hl 1 rfl) ?_
    refine lv_iconst (v := 1) hx hb dX4_personPart_11 (by decide) ?_
    obtain ⟨r11, σ13, hc12, hf⟩ := cb_e hf
    refine r_cVi (n := 1) (As := [.int 1]) (rest := []) C (c_fX4_fail hj σ H.size 1 hc12) oC_24 rfl gv_RX4_105 (by decide +kernel) ⟨rfl, rfl, by decide, by decide⟩ rfl rfl (Nat.le_of_ble_eq_true rfl) dX4_personPart_12 hP hS hl.1 (fun H locs hP hS => ?_)
    obtain ⟨hz, hf⟩ := zb_e hf
    cases hf
    exact r_zret C (zb_nar hz) hP hS dX4_personPart_15
def fX4_unit_59 (σ : St) : Option (Int32 × St) :=
(cv (fX4_advance σ) fun σ2 =>
some (1, σ2))
set_option maxHeartbeats 4000000 in
theorem b_fX4_unit_59 {E : Ev} {l : Launch} {p : Program} {e : Env} {s : State} {m : MethodId} {args : Array Value} {below : List Frame} {meth : Method} {c : Code} (C : CX true E RX4 cX4_unit 2 (some .boolean) p s m args meth c) {rr : Int32} {sr : St} : ∀ (σ : St), fX4_unit_59 σ = some (rr, sr) → GW true l (rmD 2) E 2 p e s m args below meth c (MQ below (QI true E rr sr s.heap.size) args s 0 0 (aW true E s.heap.size)) σ 59 [(0, .ref (ea E 24))] [] := by
  intro σ hf H locs ls hP hS hl
  obtain ⟨hx, hb, hr, hml, hown, hts, hlocks, hK, hX, hj⟩ := id C
  unfold fX4_unit_59 at hf
  refine lv_aload_n hx hb dX4_unit_59 rfl (lv_at hl 0 rfl) ?_
  obtain ⟨σ2, hc1, hf⟩ := cv_e hf
  refine r_cVv (n := 0) (As := []) (rest := []) C (c_fX4_advance hj σ H.size hc1) oC_24 rfl gv_RX4_95 (by decide +kernel) ⟨rfl, rfl, by decide, by decide⟩ rfl rfl (Nat.le_of_ble_eq_true rfl) dX4_unit_60 hP hS hl.1 (fun H locs hP hS => ?_)
  refine lv_iconst (v := 1) hx hb dX4_unit_63 (by decide) ?_
  cases hf
  exact r_zret C rfl hP hS dX4_unit_64
def fX4_unit (σ : St) : Option (Int32 × St) :=
(if (fX4_numberHere σ) = (-1) then
(if (((σ 24 5) - 260) - (fX4_headKinds σ)) < 0 then
(cb (fX4_fail σ 1) fun r3 σ5 =>
(zb r3 (some (r3, σ5))))
else
(gw (σ 24 7) fun w6 =>
(cv (fX9_add w6 σ 1 (((σ 24 5) - 260) - (fX4_headKinds σ))) fun σ8 =>
fX4_unit_59 σ8)))
else
(gw (σ 24 7) fun w9 =>
(cv (fX9_add w9 σ 0 (fX4_numberHere σ)) fun σ11 =>
fX4_unit_59 σ11)))
set_option maxHeartbeats 4000000 in
theorem c_fX4_unit {E : Ev} {l : Launch} (hj : jW true E) (σ : St) (sz : Nat) {rr : Int32} {sr : St} (hf : fX4_unit σ = some (rr, sr)) : Met l yX4_unit (Cond.code yX4_unit cX4_unit 2 (some .boolean) :: gT) (rmD 2) (va_Pc [.ref (ea E 24)] (preW true E σ sz)) (QI true E rr sr sz) 0 0 (aW true E sz) := by
  refine r_entry (QI true E rr sr) hj (by decide) [.ref (ea E 24)] (Nat.le_of_ble_eq_true rfl) (fun p e s m args below meth c C => ?_)
  intro H locs ls hP hS hl
  have hl : lv_has ls 2 [(0, .ref (ea E 24))] := hl
  obtain ⟨hx, hb, hr, hml, hown, hts, hlocks, hK, hX, hj⟩ := id C
  unfold fX4_unit at hf
  refine lv_aload_n hx hb dX4_unit_0 rfl (lv_at hl 0 rfl) ?_
  refine r_get (k := 5) (v := .int (σ 24 5)) C hP oC_24 rfl iX4 (by decide) wm_t167 rfl rfl dX4_unit_1 ?_
  refine lv_sipush (v := 260) hx hb dX4_unit_4 (by decide) ?_
  refine lv_isub hx hb dX4_unit_7 ?_
  refine lv_aload_n hx hb dX4_unit_8 rfl (lv_at hl 0 rfl) ?_
  refine r_cVi (n := 0) (As := []) (rest := [.int ((σ 24 5) - 260)]) C (c_fX4_headKinds hj σ H.size) oC_24 rfl gv_RX4_98 (by decide +kernel) ⟨rfl, rfl, by decide, by decide⟩ rfl rfl (Nat.le_of_ble_eq_true rfl) dX4_unit_9 hP hS hl.1 (fun H locs hP hS => ?_)
  refine lv_isub hx hb dX4_unit_12 ?_
  refine lv_istore_n (lv' := [(1, .int (((σ 24 5) - 260) - (fX4_headKinds σ))), (0, .ref (ea E 24))]) hx hb dX4_unit_13 rfl hl (by decide) rfl (fun ls hl => ?_)
  refine lv_aload_n hx hb dX4_unit_14 rfl (lv_at hl 1 rfl) ?_
  refine r_cVi (n := 0) (As := []) (rest := []) C (c_fX4_numberHere hj σ H.size) oC_24 rfl gv_RX4_136 (by decide +kernel) ⟨rfl, rfl, by decide, by decide⟩ rfl rfl (Nat.le_of_ble_eq_true rfl) dX4_unit_15 hP hS hl.1 (fun H locs hP hS => ?_)
  refine lv_iconst (v := (-1)) hx hb dX4_unit_18 (by decide) ?_
  refine lv_icmp_eq (tgt := 37) hx hb dX4_unit_19 (by decide) (fun c1 => ?_) (fun c1 => ?_)
  · replace hf := it_t c1 hf
    refine lv_iload_n hx hb dX4_unit_37 rfl (lv_at hl 0 rfl) ?_
    refine lv_if_lt (tgt := 53) hx hb dX4_unit_38 (by decide) (fun c2 => ?_) (fun c2 => ?_)
    · replace hf := it_t c2 hf
      refine lv_aload_n hx hb dX4_unit_53 rfl (lv_at hl 1 rfl) ?_
      refine lv_iconst (v := 1) hx hb dX4_unit_54 (by decide) ?_
      obtain ⟨r3, σ5, hc4, hf⟩ := cb_e hf
      refine r_cVi (n := 1) (As := [.int 1]) (rest := []) C (c_fX4_fail hj σ H.size 1 hc4) oC_24 rfl gv_RX4_105 (by decide +kernel) ⟨rfl, rfl, by decide, by decide⟩ rfl rfl (Nat.le_of_ble_eq_true rfl) dX4_unit_55 hP hS hl.1 (fun H locs hP hS => ?_)
      obtain ⟨hz, hf⟩ := zb_e hf
      cases hf
      exact r_zret C (zb_nar hz) hP hS dX4_unit_58
    · replace hf := it_f c2 hf
      refine lv_aload_n hx hb dX4_unit_41 rfl (lv_at hl 1 rfl) ?_
      refine r_get (k := 7) (v := .ref (ea E (σ 24 7).toNatClampNeg)) C hP oC_24 rfl iX4 (by decide) wm_t169 rfl rfl dX4_unit_42 ?_
      obtain ⟨w6, ew6, hw6, hf⟩ := gw_e hf
      rw [ew6]
      refine lv_iconst (v := 1) hx hb dX4_unit_45 (by decide) ?_
      refine lv_iload_n hx hb dX4_unit_46 rfl (lv_at hl 0 rfl) ?_
      obtain ⟨σ8, hc7, hf⟩ := cv_e hf
      refine r_cVv (n := 2) (As := [.int 1, .int (((σ 24 5) - 260) - (fX4_headKinds σ))]) (rest := []) C (c_fX9_add hw6 hj σ H.size 1 (((σ 24 5) - 260) - (fX4_headKinds σ)) hc7) (oW hw6) rfl gv_RX4_142 (by decide +kernel) ⟨rfl, rfl, by decide, by decide⟩ rfl rfl (Nat.le_of_ble_eq_true rfl) dX4_unit_47 hP hS hl.1 (fun H locs hP hS => ?_)
      refine lv_goto (tgt := 59) hx hb dX4_unit_50 (by decide) ?_
      exact b_fX4_unit_59 C σ8 hf H locs ls hP hS (lv_sub hl [1] rfl)
  · replace hf := it_f c1 hf
    refine lv_aload_n hx hb dX4_unit_22 rfl (lv_at hl 1 rfl) ?_
    refine r_get (k := 7) (v := .ref (ea E (σ 24 7).toNatClampNeg)) C hP oC_24 rfl iX4 (by decide) wm_t169 rfl rfl dX4_unit_23 ?_
    obtain ⟨w9, ew9, hw9, hf⟩ := gw_e hf
    rw [ew9]
    refine lv_iconst (v := 0) hx hb dX4_unit_26 (by decide) ?_
    refine lv_aload_n hx hb dX4_unit_27 rfl (lv_at hl 1 rfl) ?_
    refine r_cVi (n := 0) (As := []) (rest := [.int 0, .ref (ea E w9)]) C (c_fX4_numberHere hj σ H.size) oC_24 rfl gv_RX4_136 (by decide +kernel) ⟨rfl, rfl, by decide, by decide⟩ rfl rfl (Nat.le_of_ble_eq_true rfl) dX4_unit_28 hP hS hl.1 (fun H locs hP hS => ?_)
    obtain ⟨σ11, hc10, hf⟩ := cv_e hf
    refine r_cVv (n := 2) (As := [.int 0, .int (fX4_numberHere σ)]) (rest := []) C (c_fX9_add hw9 hj σ H.size 0 (fX4_numberHere σ) hc10) (oW hw9) rfl gv_RX4_142 (by decide +kernel) ⟨rfl, rfl, by decide, by decide⟩ rfl rfl (Nat.le_of_ble_eq_true rfl) dX4_unit_31 hP hS hl.1 (fun H locs hP hS => ?_)
    refine lv_goto (tgt := 59) hx hb dX4_unit_34 (by decide) ?_
    exact b_fX4_unit_59 C σ11 hf H locs ls hP hS (lv_sub hl [1] rfl)
def fX4_parts_2B (rec2 : St → Int32 → Option (Int32 × St)) (σ : St) (x1 : Int32) : Option (Int32 × St) :=
(if 600 < x1 then
some (1, σ)
else
(if (σ 24 5) = 47 then
(cv (fX4_advance σ) fun σ4 =>
(if (fX4_numberHere σ4) = (-1) then
(cb (fX4_fail σ4 1) fun r15 σ17 =>
(zb r15 (some (r15, σ17))))
else
(if (fX4_numberHere σ4) = 0 then
(cb (fX4_fail σ4 2) fun r12 σ14 =>
(zb r12 (some (r12, σ14))))
else
(cv (fX4_advance σ4) fun σ8 =>
(gw (σ8 24 7) fun w9 =>
(cv (fX9_add w9 σ8 2 (fX4_numberHere σ4)) fun σ11 =>
rec2 σ11 (x1 + 1)))))))
else
some (1, σ)))
set_option maxHeartbeats 4000000 in
theorem b_fX4_parts_2B {E : Ev} {l : Launch} {p : Program} {e : Env} {s : State} {m : MethodId} {args : Array Value} {below : List Frame} {meth : Method} {c : Code} (C : CX true E RX4 cX4_parts 3 (some .boolean) p s m args meth c) {rr : Int32} {sr : St} (rec2 : St → Int32 → Option (Int32 × St)) (hr2 : ∀ (σ : St) (x1 : Int32), rec2 σ x1 = some (rr, sr) → GW true l (rmD 2) E 3 p e s m args below meth c (MQ below (QI true E rr sr s.heap.size) args s 0 0 (aW true E s.heap.size)) σ 2 [(0, .ref (ea E 24)), (1, .int x1)] []) : ∀ (σ : St) (x1 : Int32), fX4_parts_2B rec2 σ x1 = some (rr, sr) → GW true l (rmD 2) E 3 p e s m args below meth c (MQ below (QI true E rr sr s.heap.size) args s 0 0 (aW true E s.heap.size)) σ 2 [(0, .ref (ea E 24)), (1, .int x1)] [] := by
  intro σ x1 hf H locs ls hP hS hl
  obtain ⟨hx, hb, hr, hml, hown, hts, hlocks, hK, hX, hj⟩ := id C
  unfold fX4_parts_2B at hf
  refine lv_iload_n hx hb dX4_parts_2 rfl (lv_at hl 1 rfl) ?_
  refine lv_sipush (v := 600) hx hb dX4_parts_3 (by decide) ?_
  refine lv_icmp_gt (tgt := 67) hx hb dX4_parts_6 (by decide) (fun c1 => ?_) (fun c1 => ?_)
  · replace hf := it_t c1 hf
    refine lv_iconst (v := 1) hx hb dX4_parts_67 (by decide) ?_
    cases hf
    exact r_zret C rfl hP hS dX4_parts_68
  · replace hf := it_f c1 hf
    refine lv_aload_n hx hb dX4_parts_9 rfl (lv_at hl 0 rfl) ?_
    refine r_get (k := 5) (v := .int (σ 24 5)) C hP oC_24 rfl iX4 (by decide) wm_t167 rfl rfl dX4_parts_10 ?_
    refine lv_bipush (v := 47) hx hb dX4_parts_13 (by decide) ?_
    refine lv_icmp_ne (tgt := 67) hx hb dX4_parts_15 (by decide) (fun c2 => ?_) (fun c2 => ?_)
    · replace hf := it_f c2 hf
      refine lv_iconst (v := 1) hx hb dX4_parts_67 (by decide) ?_
      cases hf
      exact r_zret C rfl hP hS dX4_parts_68
    · replace hf := it_t c2 hf
      refine lv_aload_n hx hb dX4_parts_18 rfl (lv_at hl 0 rfl) ?_
      obtain ⟨σ4, hc3, hf⟩ := cv_e hf
      refine r_cVv (n := 0) (As := []) (rest := []) C (c_fX4_advance hj σ H.size hc3) oC_24 rfl gv_RX4_95 (by decide +kernel) ⟨rfl, rfl, by decide, by decide⟩ rfl rfl (Nat.le_of_ble_eq_true rfl) dX4_parts_19 hP hS hl.1 (fun H locs hP hS => ?_)
      refine lv_aload_n hx hb dX4_parts_22 rfl (lv_at hl 0 rfl) ?_
      refine r_cVi (n := 0) (As := []) (rest := []) C (c_fX4_numberHere hj σ4 H.size) oC_24 rfl gv_RX4_136 (by decide +kernel) ⟨rfl, rfl, by decide, by decide⟩ rfl rfl (Nat.le_of_ble_eq_true rfl) dX4_parts_23 hP hS hl.1 (fun H locs hP hS => ?_)
      refine lv_istore_n (lv' := [(2, .int (fX4_numberHere σ4)), (0, .ref (ea E 24)), (1, .int x1)]) hx hb dX4_parts_26 rfl hl (by decide) rfl (fun ls hl => ?_)
      refine lv_iload_n hx hb dX4_parts_27 rfl (lv_at hl 0 rfl) ?_
      refine lv_iconst (v := (-1)) hx hb dX4_parts_28 (by decide) ?_
      refine lv_icmp_ne (tgt := 38) hx hb dX4_parts_29 (by decide) (fun c5 => ?_) (fun c5 => ?_)
      · replace hf := it_f c5 hf
        refine lv_iload_n hx hb dX4_parts_38 rfl (lv_at hl 0 rfl) ?_
        refine lv_if_ne (tgt := 48) hx hb dX4_parts_39 (by decide) (fun c6 => ?_) (fun c6 => ?_)
        · replace hf := it_f c6 hf
          refine lv_aload_n hx hb dX4_parts_48 rfl (lv_at hl 1 rfl) ?_
          obtain ⟨σ8, hc7, hf⟩ := cv_e hf
          refine r_cVv (n := 0) (As := []) (rest := []) C (c_fX4_advance hj σ4 H.size hc7) oC_24 rfl gv_RX4_95 (by decide +kernel) ⟨rfl, rfl, by decide, by decide⟩ rfl rfl (Nat.le_of_ble_eq_true rfl) dX4_parts_49 hP hS hl.1 (fun H locs hP hS => ?_)
          refine lv_aload_n hx hb dX4_parts_52 rfl (lv_at hl 1 rfl) ?_
          refine r_get (k := 7) (v := .ref (ea E (σ8 24 7).toNatClampNeg)) C hP oC_24 rfl iX4 (by decide) wm_t169 rfl rfl dX4_parts_53 ?_
          obtain ⟨w9, ew9, hw9, hf⟩ := gw_e hf
          rw [ew9]
          refine lv_iconst (v := 2) hx hb dX4_parts_56 (by decide) ?_
          refine lv_iload_n hx hb dX4_parts_57 rfl (lv_at hl 0 rfl) ?_
          obtain ⟨σ11, hc10, hf⟩ := cv_e hf
          refine r_cVv (n := 2) (As := [.int 2, .int (fX4_numberHere σ4)]) (rest := []) C (c_fX9_add hw9 hj σ8 H.size 2 (fX4_numberHere σ4) hc10) (oW hw9) rfl gv_RX4_142 (by decide +kernel) ⟨rfl, rfl, by decide, by decide⟩ rfl rfl (Nat.le_of_ble_eq_true rfl) dX4_parts_58 hP hS hl.1 (fun H locs hP hS => ?_)
          refine lv_iinc (v := (x1 + 1)) (lv' := [(1, .int (x1 + 1)), (2, .int (fX4_numberHere σ4)), (0, .ref (ea E 24))]) hx hb dX4_parts_61 hl (k := 2) rfl rfl (by decide) rfl (fun ls hl => ?_)
          refine lv_goto (tgt := 2) hx hb dX4_parts_64 (by decide) ?_
          exact hr2 σ11 (x1 + 1) hf H locs ls hP hS (lv_sub hl [2, 0] rfl)
        · replace hf := it_t c6 hf
          refine lv_aload_n hx hb dX4_parts_42 rfl (lv_at hl 1 rfl) ?_
          refine lv_iconst (v := 2) hx hb dX4_parts_43 (by decide) ?_
          obtain ⟨r12, σ14, hc13, hf⟩ := cb_e hf
          refine r_cVi (n := 1) (As := [.int 2]) (rest := []) C (c_fX4_fail hj σ4 H.size 2 hc13) oC_24 rfl gv_RX4_105 (by decide +kernel) ⟨rfl, rfl, by decide, by decide⟩ rfl rfl (Nat.le_of_ble_eq_true rfl) dX4_parts_44 hP hS hl.1 (fun H locs hP hS => ?_)
          obtain ⟨hz, hf⟩ := zb_e hf
          cases hf
          exact r_zret C (zb_nar hz) hP hS dX4_parts_47
      · replace hf := it_t c5 hf
        refine lv_aload_n hx hb dX4_parts_32 rfl (lv_at hl 1 rfl) ?_
        refine lv_iconst (v := 1) hx hb dX4_parts_33 (by decide) ?_
        obtain ⟨r15, σ17, hc16, hf⟩ := cb_e hf
        refine r_cVi (n := 1) (As := [.int 1]) (rest := []) C (c_fX4_fail hj σ4 H.size 1 hc16) oC_24 rfl gv_RX4_105 (by decide +kernel) ⟨rfl, rfl, by decide, by decide⟩ rfl rfl (Nat.le_of_ble_eq_true rfl) dX4_parts_34 hP hS hl.1 (fun H locs hP hS => ?_)
        obtain ⟨hz, hf⟩ := zb_e hf
        cases hf
        exact r_zret C (zb_nar hz) hP hS dX4_parts_37
def fX4_parts_2 : Nat → St → Int32 → Option (Int32 × St)
  | 0 => fun _ _ => none
  | n + 1 => fun σ x1 => fX4_parts_2B (fX4_parts_2 n) σ x1
theorem b_fX4_parts_2 {E : Ev} {l : Launch} {p : Program} {e : Env} {s : State} {m : MethodId} {args : Array Value} {below : List Frame} {meth : Method} {c : Code} (C : CX true E RX4 cX4_parts 3 (some .boolean) p s m args meth c) {rr : Int32} {sr : St} : ∀ (n : Nat) (σ : St) (x1 : Int32), fX4_parts_2 n σ x1 = some (rr, sr) → GW true l (rmD 2) E 3 p e s m args below meth c (MQ below (QI true E rr sr s.heap.size) args s 0 0 (aW true E s.heap.size)) σ 2 [(0, .ref (ea E 24)), (1, .int x1)] [] := by
  intro n
  induction n with
  | zero => intro σ x1 hf; have hf : (none : Option _) = some _ := hf; cases hf
  | succ n ih => intro σ x1 hf; exact b_fX4_parts_2B C (fX4_parts_2 n) ih σ x1 hf
def fX4_parts (σ : St) : Option (Int32 × St) :=
fX4_parts_2 FU σ 0
set_option maxHeartbeats 4000000 in
theorem c_fX4_parts {E : Ev} {l : Launch} (hj : jW true E) (σ : St) (sz : Nat) {rr : Int32} {sr : St} (hf : fX4_parts σ = some (rr, sr)) : Met l yX4_parts (Cond.code yX4_parts cX4_parts 3 (some .boolean) :: gT) (rmD 2) (va_Pc [.ref (ea E 24)] (preW true E σ sz)) (QI true E rr sr sz) 0 0 (aW true E sz) := by
  refine r_entry (QI true E rr sr) hj (by decide) [.ref (ea E 24)] (Nat.le_of_ble_eq_true rfl) (fun p e s m args below meth c C => ?_)
  intro H locs ls hP hS hl
  have hl : lv_has ls 3 [(0, .ref (ea E 24))] := hl
  obtain ⟨hx, hb, hr, hml, hown, hts, hlocks, hK, hX, hj⟩ := id C
  unfold fX4_parts at hf
  refine lv_iconst (v := 0) hx hb dX4_parts_0 (by decide) ?_
  refine lv_istore_n (lv' := [(1, .int 0), (0, .ref (ea E 24))]) hx hb dX4_parts_1 rfl hl (by decide) rfl (fun ls hl => ?_)
  exact b_fX4_parts_2 C FU σ 0 hf H locs ls hP hS (lv_sub hl [1, 0] rfl)
def fX5_copyFrom (σ : St) : Option St :=
(cv (fX8_copyFrom σ) fun σ2 =>
(acK 7 7 σ2 (10 + 1) (17 + 1) 0 0 7 fun σ3 =>
(nmS (st_put σ3 17 2 (σ3 10 2)) fun σ5 =>
(zb (σ5 10 3) (
(nmS (st_put σ5 17 3 (σ5 10 3)) fun σ7 =>
(nmS (st_put σ7 17 4 (σ7 10 4)) fun σ8 =>
(nmS (st_put σ8 17 5 (σ8 10 5)) fun σ9 =>
(nmS (st_put σ9 17 6 (σ9 10 6)) fun σ10 =>
some σ10)))))))))
set_option maxHeartbeats 4000000 in
theorem c_fX5_copyFrom {E : Ev} {l : Launch} (hj : jW true E) (σ : St) (sz : Nat) {sr : St} (hf : fX5_copyFrom σ = some sr) : Met l yX5_copyFrom (Cond.code yX5_copyFrom cX5_copyFrom 2 none :: gT) (rmD 3) (va_Pc [.ref (ea E 17), .ref (ea E 10)] (preW true E σ sz)) (QV true E sr sz) 0 0 (aW true E sz) := by
  refine r_entry (QV true E sr) hj (by decide) [.ref (ea E 17), .ref (ea E 10)] (Nat.le_of_ble_eq_true rfl) (fun p e s m args below meth c C => ?_)
  intro H locs ls hP hS hl
  have hl : lv_has ls 2 [(0, .ref (ea E 17)), (1, .ref (ea E 10))] := hl
  obtain ⟨hx, hb, hr, hml, hown, hts, hlocks, hK, hX, hj⟩ := id C
  unfold fX5_copyFrom at hf
  refine lv_aload_n hx hb dX5_copyFrom_0 rfl (lv_at hl 0 rfl) ?_
  refine r_get (k := 0) (v := .ref (ea E (17 + 2))) C hP (oV fV_17) rfl iX5 (by decide) wm_t94 rfl rfl dX5_copyFrom_1 ?_
  refine lv_aload_n hx hb dX5_copyFrom_4 rfl (lv_at hl 1 rfl) ?_
  refine r_get (k := 0) (v := .ref (ea E (10 + 2))) C hP (oV fV_10) rfl iX5 (by decide) wm_t94 rfl rfl dX5_copyFrom_5 ?_
  obtain ⟨σ2, hc1, hf⟩ := cv_e hf
  refine r_cVv (n := 1) (As := [.ref (ea E (10 + 2))]) (rest := []) C (c_fX8_copyFrom hj σ H.size hc1) (oS (fV_S fV_17)) rfl gv_RX5_31 (by decide +kernel) ⟨rfl, rfl, by decide, by decide⟩ rfl rfl (Nat.le_of_ble_eq_true rfl) dX5_copyFrom_8 hP hS hl.1 (fun H locs hP hS => ?_)
  refine lv_aload_n hx hb dX5_copyFrom_11 rfl (lv_at hl 1 rfl) ?_
  refine r_get (k := 1) (v := .ref (ea E (10 + 1))) C hP (oV fV_10) rfl iX5 (by decide) wm_t96 rfl rfl dX5_copyFrom_12 ?_
  refine lv_iconst (v := 0) hx hb dX5_copyFrom_15 (by decide) ?_
  refine lv_aload_n hx hb dX5_copyFrom_16 rfl (lv_at hl 0 rfl) ?_
  refine r_get (k := 1) (v := .ref (ea E (17 + 1))) C hP (oV fV_17) rfl iX5 (by decide) wm_t96 rfl rfl dX5_copyFrom_17 ?_
  refine lv_iconst (v := 0) hx hb dX5_copyFrom_20 (by decide) ?_
  refine lv_aload_n hx hb dX5_copyFrom_21 rfl (lv_at hl 0 rfl) ?_
  refine r_get (k := 1) (v := .ref (ea E (17 + 1))) C hP (oV fV_17) rfl iX5 (by decide) wm_t96 rfl rfl dX5_copyFrom_22 ?_
  refine r_alen (v := 7) C hP (aV_1 fV_17) rfl dX5_copyFrom_25 ?_
  obtain ⟨h4, σ3, eσ3, hf⟩ := acK_e hf
  refine r_acp C hP hS hl.1 wm_t987 wm_t986 wm_t985 wm_t20 (aV_1 fV_10) (aV_1 fV_17) h4 (by decide) (Nat.le_of_ble_eq_true rfl) dX5_copyFrom_26 (fun H locs hP hS => ?_)
  rw [← eσ3] at hP
  refine lv_aload_n hx hb dX5_copyFrom_29 rfl (lv_at hl 0 rfl) ?_
  refine lv_aload_n hx hb dX5_copyFrom_30 rfl (lv_at hl 1 rfl) ?_
  refine r_get (k := 2) (v := .int (σ3 10 2)) C hP (oV fV_10) rfl iX5 (by decide) wm_t97 rfl rfl dX5_copyFrom_31 ?_
  refine r_put (k := 2) (x := (σ3 10 2)) C hP hS tyX5 tyX5_ok nmX5 (oV fV_17) rfl iX5 (by decide) wm_t97 rfl rfl sV_2 rfl rfl (Nat.le_of_ble_eq_true rfl) dX5_copyFrom_34 (fun H locs hP hS => ?_)
  obtain ⟨σ5, eσ5, hf⟩ := nmS_e hf
  rw [← eσ5] at hP
  refine lv_aload_n hx hb dX5_copyFrom_37 rfl (lv_at hl 0 rfl) ?_
  refine lv_aload_n hx hb dX5_copyFrom_38 rfl (lv_at hl 1 rfl) ?_
  refine r_get (k := 3) (v := .int (σ5 10 3)) C hP (oV fV_10) rfl iX5 (by decide) wm_t98 rfl rfl dX5_copyFrom_39 ?_
  obtain ⟨h6, hf⟩ := zb_e hf
  refine r_put (k := 3) (x := (σ5 10 3)) C hP hS tyX5 tyX5_ok nmX5 (oV fV_17) rfl iX5 (by decide) wm_t98 rfl rfl sV_3 (zb_nar h6) (zb_fit h6) (Nat.le_of_ble_eq_true rfl) dX5_copyFrom_42 (fun H locs hP hS => ?_)
  obtain ⟨σ7, eσ7, hf⟩ := nmS_e hf
  rw [← eσ7] at hP
  refine lv_aload_n hx hb dX5_copyFrom_45 rfl (lv_at hl 0 rfl) ?_
  refine lv_aload_n hx hb dX5_copyFrom_46 rfl (lv_at hl 1 rfl) ?_
  refine r_get (k := 4) (v := .int (σ7 10 4)) C hP (oV fV_10) rfl iX5 (by decide) wm_t100 rfl rfl dX5_copyFrom_47 ?_
  refine r_put (k := 4) (x := (σ7 10 4)) C hP hS tyX5 tyX5_ok nmX5 (oV fV_17) rfl iX5 (by decide) wm_t100 rfl rfl sV_4 rfl rfl (Nat.le_of_ble_eq_true rfl) dX5_copyFrom_50 (fun H locs hP hS => ?_)
  obtain ⟨σ8, eσ8, hf⟩ := nmS_e hf
  rw [← eσ8] at hP
  refine lv_aload_n hx hb dX5_copyFrom_53 rfl (lv_at hl 0 rfl) ?_
  refine lv_aload_n hx hb dX5_copyFrom_54 rfl (lv_at hl 1 rfl) ?_
  refine r_get (k := 5) (v := .int (σ8 10 5)) C hP (oV fV_10) rfl iX5 (by decide) wm_t102 rfl rfl dX5_copyFrom_55 ?_
  refine r_put (k := 5) (x := (σ8 10 5)) C hP hS tyX5 tyX5_ok nmX5 (oV fV_17) rfl iX5 (by decide) wm_t102 rfl rfl sV_5 rfl rfl (Nat.le_of_ble_eq_true rfl) dX5_copyFrom_58 (fun H locs hP hS => ?_)
  obtain ⟨σ9, eσ9, hf⟩ := nmS_e hf
  rw [← eσ9] at hP
  refine lv_aload_n hx hb dX5_copyFrom_61 rfl (lv_at hl 0 rfl) ?_
  refine lv_aload_n hx hb dX5_copyFrom_62 rfl (lv_at hl 1 rfl) ?_
  refine r_get (k := 6) (v := .int (σ9 10 6)) C hP (oV fV_10) rfl iX5 (by decide) wm_t104 rfl rfl dX5_copyFrom_63 ?_
  refine r_put (k := 6) (x := (σ9 10 6)) C hP hS tyX5 tyX5_ok nmX5 (oV fV_17) rfl iX5 (by decide) wm_t104 rfl rfl sV_6 rfl rfl (Nat.le_of_ble_eq_true rfl) dX5_copyFrom_66 (fun H locs hP hS => ?_)
  obtain ⟨σ10, eσ10, hf⟩ := nmS_e hf
  rw [← eσ10] at hP
  cases hf
  exact r_vret C hP hS dX5_copyFrom_69
def fX5_tellArm_22 (b : Nat) (σ : St) (x1 : Int32) (x2 : Int32) : Option (Int32 × St) :=
(if (fX10_within x1 7) = 0 then
some (0, σ)
else
(if (fX10_within x2 100) = 0 then
some (0, σ)
else
(wrK 7 σ (b + 1) x1 x2 fun σ3 =>
some (1, σ3))))
set_option maxHeartbeats 4000000 in
theorem b_fX5_tellArm_22 {E : Ev} {l : Launch} {p : Program} {e : Env} {s : State} {m : MethodId} {args : Array Value} {below : List Frame} {meth : Method} {c : Code} {b : Nat} (hfb : fV b) (C : CX true E RX5 cX5_tellArm 3 (some .boolean) p s m args meth c) {rr : Int32} {sr : St} : ∀ (σ : St) (x1 : Int32) (x2 : Int32), fX5_tellArm_22 b σ x1 x2 = some (rr, sr) → GW true l (rmD 2) E 3 p e s m args below meth c (MQ below (QI true E rr sr s.heap.size) args s 0 0 (aW true E s.heap.size)) σ 22 [(0, .ref (ea E b)), (1, .int x1), (2, .int x2)] [] := by
  intro σ x1 x2 hf H locs ls hP hS hl
  obtain ⟨hx, hb, hr, hml, hown, hts, hlocks, hK, hX, hj⟩ := id C
  unfold fX5_tellArm_22 at hf
  refine lv_iload_n hx hb dX5_tellArm_22 rfl (lv_at hl 1 rfl) ?_
  refine lv_aload_n hx hb dX5_tellArm_23 rfl (lv_at hl 0 rfl) ?_
  refine r_get (k := 1) (v := .ref (ea E (b + 1))) C hP (oV hfb) rfl iX5 (by decide) wm_t96 rfl rfl dX5_tellArm_24 ?_
  refine r_alen (v := 7) C hP (aV_1 hfb) rfl dX5_tellArm_27 ?_
  refine r_cNi (n := 2) (As := [.int x1, .int 7]) (rest := []) (host := "SoupCargo") C (c_fX10_within hj σ H.size x1 7) (by decide +kernel) wm_t343 wm_t1 wm_t342 (by decide +kernel) ⟨rfl, rfl, by decide, by decide⟩ rfl rfl (Nat.le_of_ble_eq_true rfl) dX5_tellArm_28 hP hS hl.1 (fun H locs hP hS => ?_)
  refine lv_if_eq (tgt := 43) hx hb dX5_tellArm_31 (by decide) (fun c1 => ?_) (fun c1 => ?_)
  · replace hf := it_t c1 hf
    refine lv_iconst (v := 0) hx hb dX5_tellArm_43 (by decide) ?_
    cases hf
    exact r_zret C rfl hP hS dX5_tellArm_44
  · replace hf := it_f c1 hf
    refine lv_iload_n hx hb dX5_tellArm_34 rfl (lv_at hl 2 rfl) ?_
    refine lv_bipush (v := 100) hx hb dX5_tellArm_35 (by decide) ?_
    refine r_cNi (n := 2) (As := [.int x2, .int 100]) (rest := []) (host := "SoupCargo") C (c_fX10_within hj σ H.size x2 100) (by decide +kernel) wm_t343 wm_t1 wm_t342 (by decide +kernel) ⟨rfl, rfl, by decide, by decide⟩ rfl rfl (Nat.le_of_ble_eq_true rfl) dX5_tellArm_37 hP hS hl.1 (fun H locs hP hS => ?_)
    refine lv_if_ne (tgt := 45) hx hb dX5_tellArm_40 (by decide) (fun c2 => ?_) (fun c2 => ?_)
    · replace hf := it_f c2 hf
      refine lv_aload_n hx hb dX5_tellArm_45 rfl (lv_at hl 0 rfl) ?_
      refine r_get (k := 1) (v := .ref (ea E (b + 1))) C hP (oV hfb) rfl iX5 (by decide) wm_t96 rfl rfl dX5_tellArm_46 ?_
      refine lv_iload_n hx hb dX5_tellArm_49 rfl (lv_at hl 1 rfl) ?_
      refine lv_iload_n hx hb dX5_tellArm_50 rfl (lv_at hl 2 rfl) ?_
      obtain ⟨h4, σ3, eσ3, hf⟩ := wrK_e hf
      refine r_ast C hP hS (aV_1 hfb) h4 dX5_tellArm_51 (fun H locs hP hS => ?_)
      rw [← eσ3] at hP
      refine lv_iconst (v := 1) hx hb dX5_tellArm_52 (by decide) ?_
      cases hf
      exact r_zret C rfl hP hS dX5_tellArm_53
    · replace hf := it_t c2 hf
      refine lv_iconst (v := 0) hx hb dX5_tellArm_43 (by decide) ?_
      cases hf
      exact r_zret C rfl hP hS dX5_tellArm_44
def fX5_tellArm (b : Nat) (σ : St) (a0 : Int32) (a1 : Int32) : Option (Int32 × St) :=
(if a0 = 7 then
(if (fX10_within a1 91) = 0 then
fX5_tellArm_22 b σ a0 a1
else
(nmS (st_put σ b 2 a1) fun σ3 =>
some (1, σ3)))
else
fX5_tellArm_22 b σ a0 a1)
set_option maxHeartbeats 4000000 in
theorem c_fX5_tellArm {E : Ev} {l : Launch} {b : Nat} (hfb : fV b) (hj : jW true E) (σ : St) (sz : Nat) (a0 : Int32) (a1 : Int32) {rr : Int32} {sr : St} (hf : fX5_tellArm b σ a0 a1 = some (rr, sr)) : Met l yX5_tellArm (Cond.code yX5_tellArm cX5_tellArm 3 (some .boolean) :: gT) (rmD 2) (va_Pc [.ref (ea E b), .int a0, .int a1] (preW true E σ sz)) (QI true E rr sr sz) 0 0 (aW true E sz) := by
  refine r_entry (QI true E rr sr) hj (by decide) [.ref (ea E b), .int a0, .int a1] (Nat.le_of_ble_eq_true rfl) (fun p e s m args below meth c C => ?_)
  intro H locs ls hP hS hl
  have hl : lv_has ls 3 [(0, .ref (ea E b)), (1, .int a0), (2, .int a1)] := hl
  obtain ⟨hx, hb, hr, hml, hown, hts, hlocks, hK, hX, hj⟩ := id C
  unfold fX5_tellArm at hf
  refine lv_iload_n hx hb dX5_tellArm_0 rfl (lv_at hl 1 rfl) ?_
  refine lv_bipush (v := 7) hx hb dX5_tellArm_1 (by decide) ?_
  refine lv_icmp_ne (tgt := 22) hx hb dX5_tellArm_3 (by decide) (fun c1 => ?_) (fun c1 => ?_)
  · replace hf := it_f c1 hf
    exact b_fX5_tellArm_22 hfb C σ a0 a1 hf H locs ls hP hS (lv_sub hl [0, 1, 2] rfl)
  · replace hf := it_t c1 hf
    refine lv_iload_n hx hb dX5_tellArm_6 rfl (lv_at hl 2 rfl) ?_
    refine lv_bipush (v := 91) hx hb dX5_tellArm_7 (by decide) ?_
    refine r_cNi (n := 2) (As := [.int a1, .int 91]) (rest := []) (host := "SoupCargo") C (c_fX10_within hj σ H.size a1 91) (by decide +kernel) wm_t343 wm_t1 wm_t342 (by decide +kernel) ⟨rfl, rfl, by decide, by decide⟩ rfl rfl (Nat.le_of_ble_eq_true rfl) dX5_tellArm_9 hP hS hl.1 (fun H locs hP hS => ?_)
    refine lv_if_eq (tgt := 22) hx hb dX5_tellArm_12 (by decide) (fun c2 => ?_) (fun c2 => ?_)
    · replace hf := it_t c2 hf
      exact b_fX5_tellArm_22 hfb C σ a0 a1 hf H locs ls hP hS (lv_sub hl [0, 1, 2] rfl)
    · replace hf := it_f c2 hf
      refine lv_aload_n hx hb dX5_tellArm_15 rfl (lv_at hl 0 rfl) ?_
      refine lv_iload_n hx hb dX5_tellArm_16 rfl (lv_at hl 2 rfl) ?_
      refine r_put (k := 2) (x := a1) C hP hS tyX5 tyX5_ok nmX5 (oV hfb) rfl iX5 (by decide) wm_t97 rfl rfl sV_2 rfl rfl (Nat.le_of_ble_eq_true rfl) dX5_tellArm_17 (fun H locs hP hS => ?_)
      obtain ⟨σ3, eσ3, hf⟩ := nmS_e hf
      rw [← eσ3] at hP
      refine lv_iconst (v := 1) hx hb dX5_tellArm_20 (by decide) ?_
      cases hf
      exact r_zret C rfl hP hS dX5_tellArm_21
def fX5_armTenths (b : Nat) (σ : St) (a0 : Int32) : Option Int32 :=
(if (fX10_within (a0 / 10) 7) = 0 then
some 0
else
(nm (if (7 - 1) < ((a0 / 10) + 1) then (7 - 1) else ((a0 / 10) + 1)) fun v2 =>
(rdK 7 (σ (b + 1)) (a0 / 10) fun v3 =>
(rdK 7 (σ (b + 1)) v2 fun v5 =>
(rdK 7 (σ (b + 1)) (a0 / 10) fun v7 =>
some ((10 * v3) + ((v5 - v7) * (a0 - a0 / 10 * 10))))))))
set_option maxHeartbeats 4000000 in
theorem c_fX5_armTenths {E : Ev} {l : Launch} {b : Nat} (hfb : fV b) (hj : jW true E) (σ : St) (sz : Nat) (a0 : Int32) {rr : Int32} (hf : fX5_armTenths b σ a0 = some rr) : Met l yX5_armTenths (Cond.code yX5_armTenths cX5_armTenths 4 (some .int) :: gT) (rmD 2) (va_Pc [.ref (ea E b), .int a0] (preW true E σ sz)) (QI true E rr σ sz) 0 0 (aW true E sz) := by
  refine r_entry (QI true E rr σ) hj (by decide) [.ref (ea E b), .int a0] (Nat.le_of_ble_eq_true rfl) (fun p e s m args below meth c C => ?_)
  intro H locs ls hP hS hl
  have hl : lv_has ls 4 [(0, .ref (ea E b)), (1, .int a0)] := hl
  obtain ⟨hx, hb, hr, hml, hown, hts, hlocks, hK, hX, hj⟩ := id C
  unfold fX5_armTenths at hf
  refine lv_iload_n hx hb dX5_armTenths_0 rfl (lv_at hl 1 rfl) ?_
  refine lv_bipush (v := 10) hx hb dX5_armTenths_1 (by decide) ?_
  refine lv_idiv hx hb dX5_armTenths_3 (by decide) ?_
  refine lv_istore_n (lv' := [(2, .int (a0 / 10)), (0, .ref (ea E b)), (1, .int a0)]) hx hb dX5_armTenths_4 rfl hl (by decide) rfl (fun ls hl => ?_)
  refine lv_iload_n hx hb dX5_armTenths_5 rfl (lv_at hl 0 rfl) ?_
  refine lv_aload_n hx hb dX5_armTenths_6 rfl (lv_at hl 1 rfl) ?_
  refine r_get (k := 1) (v := .ref (ea E (b + 1))) C hP (oV hfb) rfl iX5 (by decide) wm_t96 rfl rfl dX5_armTenths_7 ?_
  refine r_alen (v := 7) C hP (aV_1 hfb) rfl dX5_armTenths_10 ?_
  refine r_cNi (n := 2) (As := [.int (a0 / 10), .int 7]) (rest := []) (host := "SoupCargo") C (c_fX10_within hj σ H.size (a0 / 10) 7) (by decide +kernel) wm_t343 wm_t1 wm_t342 (by decide +kernel) ⟨rfl, rfl, by decide, by decide⟩ rfl rfl (Nat.le_of_ble_eq_true rfl) dX5_armTenths_11 hP hS hl.1 (fun H locs hP hS => ?_)
  refine lv_if_ne (tgt := 19) hx hb dX5_armTenths_14 (by decide) (fun c1 => ?_) (fun c1 => ?_)
  · replace hf := it_f c1 hf
    refine lv_iload_n hx hb dX5_armTenths_19 rfl (lv_at hl 0 rfl) ?_
    refine lv_iconst (v := 1) hx hb dX5_armTenths_20 (by decide) ?_
    refine lv_iadd hx hb dX5_armTenths_21 ?_
    refine lv_aload_n hx hb dX5_armTenths_22 rfl (lv_at hl 1 rfl) ?_
    refine r_get (k := 1) (v := .ref (ea E (b + 1))) C hP (oV hfb) rfl iX5 (by decide) wm_t96 rfl rfl dX5_armTenths_23 ?_
    refine r_alen (v := 7) C hP (aV_1 hfb) rfl dX5_armTenths_26 ?_
    refine lv_iconst (v := 1) hx hb dX5_armTenths_27 (by decide) ?_
    refine lv_isub hx hb dX5_armTenths_28 ?_
    refine va_mmin hx hb (hml.trans hl.1.symm) hown (hts _ wm_t749) (hts _ wm_t505) (hts _ wm_t4) (hts _ wm_t506) (by decide) (Nat.le_of_ble_eq_true rfl) (Nat.zero_le _) (Nat.zero_le _) dX5_armTenths_29 ?_
    refine lv_topi (fun v2 ev2 => ?_)
    replace hf := nm_i ev2 hf
    refine lv_istore_n (lv' := [(3, .int v2), (2, .int (a0 / 10)), (0, .ref (ea E b)), (1, .int a0)]) hx hb dX5_armTenths_32 rfl hl (by decide) rfl (fun ls hl => ?_)
    refine lv_bipush (v := 10) hx hb dX5_armTenths_33 (by decide) ?_
    refine lv_aload_n hx hb dX5_armTenths_35 rfl (lv_at hl 2 rfl) ?_
    refine r_get (k := 1) (v := .ref (ea E (b + 1))) C hP (oV hfb) rfl iX5 (by decide) wm_t96 rfl rfl dX5_armTenths_36 ?_
    refine lv_iload_n hx hb dX5_armTenths_39 rfl (lv_at hl 1 rfl) ?_
    have h4 := (rdK_e hf).1
    refine r_ald C hP (aV_1 hfb) h4 dX5_armTenths_40 ?_
    refine lv_topi (fun v3 ev3 => ?_)
    replace hf := rdK_n ev3 hf
    refine lv_imul hx hb dX5_armTenths_41 ?_
    refine lv_aload_n hx hb dX5_armTenths_42 rfl (lv_at hl 2 rfl) ?_
    refine r_get (k := 1) (v := .ref (ea E (b + 1))) C hP (oV hfb) rfl iX5 (by decide) wm_t96 rfl rfl dX5_armTenths_43 ?_
    refine lv_iload_n hx hb dX5_armTenths_46 rfl (lv_at hl 0 rfl) ?_
    have h6 := (rdK_e hf).1
    refine r_ald C hP (aV_1 hfb) h6 dX5_armTenths_47 ?_
    refine lv_topi (fun v5 ev5 => ?_)
    replace hf := rdK_n ev5 hf
    refine lv_aload_n hx hb dX5_armTenths_48 rfl (lv_at hl 2 rfl) ?_
    refine r_get (k := 1) (v := .ref (ea E (b + 1))) C hP (oV hfb) rfl iX5 (by decide) wm_t96 rfl rfl dX5_armTenths_49 ?_
    refine lv_iload_n hx hb dX5_armTenths_52 rfl (lv_at hl 1 rfl) ?_
    have h8 := (rdK_e hf).1
    refine r_ald C hP (aV_1 hfb) h8 dX5_armTenths_53 ?_
    refine lv_topi (fun v7 ev7 => ?_)
    replace hf := rdK_n ev7 hf
    refine lv_isub hx hb dX5_armTenths_54 ?_
    refine lv_iload_n hx hb dX5_armTenths_55 rfl (lv_at hl 3 rfl) ?_
    refine lv_bipush (v := 10) hx hb dX5_armTenths_56 (by decide) ?_
    refine lv_irem hx hb dX5_armTenths_58 (by decide) ?_
    refine lv_imul hx hb dX5_armTenths_59 ?_
    refine lv_iadd hx hb dX5_armTenths_60 ?_
    cases hf
    exact r_iret C hP hS dX5_armTenths_61
  · replace hf := it_t c1 hf
    refine lv_iconst (v := 0) hx hb dX5_armTenths_17 (by decide) ?_
    cases hf
    exact r_iret C hP hS dX5_armTenths_18
def fX5_moment_4B (b : Nat) (σ : St) (rec4 : Int32 → Int32 → Option Int32) (x1 : Int32) (x2 : Int32) : Option Int32 :=
(if (nI (stN (b + 2))) ≤ x2 then
some x1
else
(cq (fX5_heft b σ x2) fun r2 =>
(nm (x1 + (r2 * (fX10_columnArm ((x2 / 6) - (x2 / 6) / 6 * 6)))) fun v4 =>
rec4 v4 (x2 + 1))))
set_option maxHeartbeats 4000000 in
theorem b_fX5_moment_4B {E : Ev} {l : Launch} {p : Program} {e : Env} {s : State} {m : MethodId} {args : Array Value} {below : List Frame} {meth : Method} {c : Code} {b : Nat} (hfb : fV b) (σ : St) (C : CX true E RX5 cX5_moment 3 (some .int) p s m args meth c) {rr : Int32} (rec4 : Int32 → Int32 → Option Int32) (hr4 : ∀  (x1 : Int32) (x2 : Int32), rec4 x1 x2 = some rr → GW true l (rmD 2) E 3 p e s m args below meth c (MQ below (QI true E rr σ s.heap.size) args s 0 0 (aW true E s.heap.size)) σ 4 [(0, .ref (ea E b)), (1, .int x1), (2, .int x2)] []) : ∀  (x1 : Int32) (x2 : Int32), fX5_moment_4B b σ rec4 x1 x2 = some rr → GW true l (rmD 2) E 3 p e s m args below meth c (MQ below (QI true E rr σ s.heap.size) args s 0 0 (aW true E s.heap.size)) σ 4 [(0, .ref (ea E b)), (1, .int x1), (2, .int x2)] [] := by
  intro x1 x2 hf H locs ls hP hS hl
  obtain ⟨hx, hb, hr, hml, hown, hts, hlocks, hK, hX, hj⟩ := id C
  unfold fX5_moment_4B at hf
  refine lv_iload_n hx hb dX5_moment_4 rfl (lv_at hl 2 rfl) ?_
  refine lv_aload_n hx hb dX5_moment_5 rfl (lv_at hl 0 rfl) ?_
  refine r_get (k := 0) (v := .ref (ea E (b + 2))) C hP (oV hfb) rfl iX5 (by decide) wm_t94 rfl rfl dX5_moment_6 ?_
  refine r_get (k := 3) (v := .ref (ea E ((b + 2) + 1))) C hP (oS (fV_S hfb)) rfl iX8 (by decide) wm_t58 rfl rfl dX5_moment_9 ?_
  refine r_alen (v := (nI (stN (b + 2)))) C hP (aS_1 (fV_S hfb)) rfl dX5_moment_12 ?_
  refine lv_icmp_ge (tgt := 41) hx hb dX5_moment_13 (by decide) (fun c1 => ?_) (fun c1 => ?_)
  · replace hf := it_t c1 hf
    refine lv_iload_n hx hb dX5_moment_41 rfl (lv_at hl 1 rfl) ?_
    cases hf
    exact r_iret C hP hS dX5_moment_42
  · replace hf := it_f c1 hf
    refine lv_iload_n hx hb dX5_moment_16 rfl (lv_at hl 1 rfl) ?_
    refine lv_aload_n hx hb dX5_moment_17 rfl (lv_at hl 0 rfl) ?_
    refine lv_iload_n hx hb dX5_moment_18 rfl (lv_at hl 2 rfl) ?_
    obtain ⟨r2, hc3, hf⟩ := cq_e hf
    refine r_cVi (n := 1) (As := [.int x2]) (rest := [.int x1]) C (c_fX5_heft hfb hj σ H.size x2 hc3) (oV hfb) rfl gv_RX5_64 (by decide +kernel) ⟨rfl, rfl, by decide, by decide⟩ rfl rfl (Nat.le_of_ble_eq_true rfl) dX5_moment_19 hP hS hl.1 (fun H locs hP hS => ?_)
    refine lv_iload_n hx hb dX5_moment_22 rfl (lv_at hl 2 rfl) ?_
    refine lv_bipush (v := 6) hx hb dX5_moment_23 (by decide) ?_
    refine lv_idiv hx hb dX5_moment_25 (by decide) ?_
    refine lv_bipush (v := 6) hx hb dX5_moment_26 (by decide) ?_
    refine lv_irem hx hb dX5_moment_28 (by decide) ?_
    refine r_cNi (n := 1) (As := [.int ((x2 / 6) - (x2 / 6) / 6 * 6)]) (rest := [.int r2, .int x1]) (host := "SoupCargo") C (c_fX10_columnArm hj σ H.size ((x2 / 6) - (x2 / 6) / 6 * 6)) (by decide +kernel) wm_t735 wm_t1 wm_t734 (by decide +kernel) ⟨rfl, rfl, by decide, by decide⟩ rfl rfl (Nat.le_of_ble_eq_true rfl) dX5_moment_29 hP hS hl.1 (fun H locs hP hS => ?_)
    refine lv_imul hx hb dX5_moment_32 ?_
    refine lv_iadd hx hb dX5_moment_33 ?_
    refine lv_topi (fun v4 ev4 => ?_)
    replace hf := nm_i ev4 hf
    refine lv_istore_n (lv' := [(1, .int v4), (0, .ref (ea E b)), (2, .int x2)]) hx hb dX5_moment_34 rfl hl (by decide) rfl (fun ls hl => ?_)
    refine lv_iinc (v := (x2 + 1)) (lv' := [(2, .int (x2 + 1)), (1, .int v4), (0, .ref (ea E b))]) hx hb dX5_moment_35 hl (k := 2) rfl rfl (by decide) rfl (fun ls hl => ?_)
    refine lv_goto (tgt := 4) hx hb dX5_moment_38 (by decide) ?_
    exact hr4 v4 (x2 + 1) hf H locs ls hP hS (lv_sub hl [2, 1, 0] rfl)
def fX5_moment_4 (b : Nat) (σ : St) : Nat → Int32 → Int32 → Option Int32
  | 0 => fun _ _ => none
  | n + 1 => fun x1 x2 => fX5_moment_4B b σ (fX5_moment_4 b σ n) x1 x2
theorem b_fX5_moment_4 {E : Ev} {l : Launch} {p : Program} {e : Env} {s : State} {m : MethodId} {args : Array Value} {below : List Frame} {meth : Method} {c : Code} {b : Nat} (hfb : fV b) (σ : St) (C : CX true E RX5 cX5_moment 3 (some .int) p s m args meth c) {rr : Int32} : ∀ (n : Nat) (x1 : Int32) (x2 : Int32), fX5_moment_4 b σ n x1 x2 = some rr → GW true l (rmD 2) E 3 p e s m args below meth c (MQ below (QI true E rr σ s.heap.size) args s 0 0 (aW true E s.heap.size)) σ 4 [(0, .ref (ea E b)), (1, .int x1), (2, .int x2)] [] := by
  intro n
  induction n with
  | zero => intro x1 x2 hf; have hf : (none : Option _) = some _ := hf; cases hf
  | succ n ih => intro x1 x2 hf; exact b_fX5_moment_4B hfb σ C (fX5_moment_4 b σ n) ih x1 x2 hf
def fX5_moment (b : Nat) (σ : St) : Option Int32 :=
fX5_moment_4 b σ FU 0 0
set_option maxHeartbeats 4000000 in
theorem c_fX5_moment {E : Ev} {l : Launch} {b : Nat} (hfb : fV b) (hj : jW true E) (σ : St) (sz : Nat) {rr : Int32} (hf : fX5_moment b σ = some rr) : Met l yX5_moment (Cond.code yX5_moment cX5_moment 3 (some .int) :: gT) (rmD 2) (va_Pc [.ref (ea E b)] (preW true E σ sz)) (QI true E rr σ sz) 0 0 (aW true E sz) := by
  refine r_entry (QI true E rr σ) hj (by decide) [.ref (ea E b)] (Nat.le_of_ble_eq_true rfl) (fun p e s m args below meth c C => ?_)
  intro H locs ls hP hS hl
  have hl : lv_has ls 3 [(0, .ref (ea E b))] := hl
  obtain ⟨hx, hb, hr, hml, hown, hts, hlocks, hK, hX, hj⟩ := id C
  unfold fX5_moment at hf
  refine lv_iconst (v := 0) hx hb dX5_moment_0 (by decide) ?_
  refine lv_istore_n (lv' := [(1, .int 0), (0, .ref (ea E b))]) hx hb dX5_moment_1 rfl hl (by decide) rfl (fun ls hl => ?_)
  refine lv_iconst (v := 0) hx hb dX5_moment_2 (by decide) ?_
  refine lv_istore_n (lv' := [(2, .int 0), (1, .int 0), (0, .ref (ea E b))]) hx hb dX5_moment_3 rfl hl (by decide) rfl (fun ls hl => ?_)
  exact b_fX5_moment_4 hfb σ C FU 0 0 hf H locs ls hP hS (lv_sub hl [2, 1, 0] rfl)
def fX5_weight_6B (b : Nat) (σ : St) (rec6 : Int32 → Int32 → Option Int32) (x1 : Int32) (x2 : Int32) : Option Int32 :=
(if (nI (stN (b + 2))) ≤ x2 then
some x1
else
(cq (fX5_heft b σ x2) fun r2 =>
rec6 (x1 + r2) (x2 + 1)))
set_option maxHeartbeats 4000000 in
theorem b_fX5_weight_6B {E : Ev} {l : Launch} {p : Program} {e : Env} {s : State} {m : MethodId} {args : Array Value} {below : List Frame} {meth : Method} {c : Code} {b : Nat} (hfb : fV b) (σ : St) (C : CX true E RX5 cX5_weight 3 (some .int) p s m args meth c) {rr : Int32} (rec6 : Int32 → Int32 → Option Int32) (hr6 : ∀  (x1 : Int32) (x2 : Int32), rec6 x1 x2 = some rr → GW true l (rmD 2) E 3 p e s m args below meth c (MQ below (QI true E rr σ s.heap.size) args s 0 0 (aW true E s.heap.size)) σ 6 [(0, .ref (ea E b)), (1, .int x1), (2, .int x2)] []) : ∀  (x1 : Int32) (x2 : Int32), fX5_weight_6B b σ rec6 x1 x2 = some rr → GW true l (rmD 2) E 3 p e s m args below meth c (MQ below (QI true E rr σ s.heap.size) args s 0 0 (aW true E s.heap.size)) σ 6 [(0, .ref (ea E b)), (1, .int x1), (2, .int x2)] [] := by
  intro x1 x2 hf H locs ls hP hS hl
  obtain ⟨hx, hb, hr, hml, hown, hts, hlocks, hK, hX, hj⟩ := id C
  unfold fX5_weight_6B at hf
  refine lv_iload_n hx hb dX5_weight_6 rfl (lv_at hl 2 rfl) ?_
  refine lv_aload_n hx hb dX5_weight_7 rfl (lv_at hl 0 rfl) ?_
  refine r_get (k := 0) (v := .ref (ea E (b + 2))) C hP (oV hfb) rfl iX5 (by decide) wm_t94 rfl rfl dX5_weight_8 ?_
  refine r_get (k := 3) (v := .ref (ea E ((b + 2) + 1))) C hP (oS (fV_S hfb)) rfl iX8 (by decide) wm_t58 rfl rfl dX5_weight_11 ?_
  refine r_alen (v := (nI (stN (b + 2)))) C hP (aS_1 (fV_S hfb)) rfl dX5_weight_14 ?_
  refine lv_icmp_ge (tgt := 32) hx hb dX5_weight_15 (by decide) (fun c1 => ?_) (fun c1 => ?_)
  · replace hf := it_t c1 hf
    refine lv_iload_n hx hb dX5_weight_32 rfl (lv_at hl 1 rfl) ?_
    cases hf
    exact r_iret C hP hS dX5_weight_33
  · replace hf := it_f c1 hf
    refine lv_iload_n hx hb dX5_weight_18 rfl (lv_at hl 1 rfl) ?_
    refine lv_aload_n hx hb dX5_weight_19 rfl (lv_at hl 0 rfl) ?_
    refine lv_iload_n hx hb dX5_weight_20 rfl (lv_at hl 2 rfl) ?_
    obtain ⟨r2, hc3, hf⟩ := cq_e hf
    refine r_cVi (n := 1) (As := [.int x2]) (rest := [.int x1]) C (c_fX5_heft hfb hj σ H.size x2 hc3) (oV hfb) rfl gv_RX5_64 (by decide +kernel) ⟨rfl, rfl, by decide, by decide⟩ rfl rfl (Nat.le_of_ble_eq_true rfl) dX5_weight_21 hP hS hl.1 (fun H locs hP hS => ?_)
    refine lv_iadd hx hb dX5_weight_24 ?_
    refine lv_istore_n (lv' := [(1, .int (x1 + r2)), (0, .ref (ea E b)), (2, .int x2)]) hx hb dX5_weight_25 rfl hl (by decide) rfl (fun ls hl => ?_)
    refine lv_iinc (v := (x2 + 1)) (lv' := [(2, .int (x2 + 1)), (1, .int (x1 + r2)), (0, .ref (ea E b))]) hx hb dX5_weight_26 hl (k := 2) rfl rfl (by decide) rfl (fun ls hl => ?_)
    refine lv_goto (tgt := 6) hx hb dX5_weight_29 (by decide) ?_
    exact hr6 (x1 + r2) (x2 + 1) hf H locs ls hP hS (lv_sub hl [2, 1, 0] rfl)
def fX5_weight_6 (b : Nat) (σ : St) : Nat → Int32 → Int32 → Option Int32
  | 0 => fun _ _ => none
  | n + 1 => fun x1 x2 => fX5_weight_6B b σ (fX5_weight_6 b σ n) x1 x2
theorem b_fX5_weight_6 {E : Ev} {l : Launch} {p : Program} {e : Env} {s : State} {m : MethodId} {args : Array Value} {below : List Frame} {meth : Method} {c : Code} {b : Nat} (hfb : fV b) (σ : St) (C : CX true E RX5 cX5_weight 3 (some .int) p s m args meth c) {rr : Int32} : ∀ (n : Nat) (x1 : Int32) (x2 : Int32), fX5_weight_6 b σ n x1 x2 = some rr → GW true l (rmD 2) E 3 p e s m args below meth c (MQ below (QI true E rr σ s.heap.size) args s 0 0 (aW true E s.heap.size)) σ 6 [(0, .ref (ea E b)), (1, .int x1), (2, .int x2)] [] := by
  intro n
  induction n with
  | zero => intro x1 x2 hf; have hf : (none : Option _) = some _ := hf; cases hf
  | succ n ih => intro x1 x2 hf; exact b_fX5_weight_6B hfb σ C (fX5_weight_6 b σ n) ih x1 x2 hf
def fX5_weight (b : Nat) (σ : St) : Option Int32 :=
fX5_weight_6 b σ FU 2000 0
set_option maxHeartbeats 4000000 in
theorem c_fX5_weight {E : Ev} {l : Launch} {b : Nat} (hfb : fV b) (hj : jW true E) (σ : St) (sz : Nat) {rr : Int32} (hf : fX5_weight b σ = some rr) : Met l yX5_weight (Cond.code yX5_weight cX5_weight 3 (some .int) :: gT) (rmD 2) (va_Pc [.ref (ea E b)] (preW true E σ sz)) (QI true E rr σ sz) 0 0 (aW true E sz) := by
  refine r_entry (QI true E rr σ) hj (by decide) [.ref (ea E b)] (Nat.le_of_ble_eq_true rfl) (fun p e s m args below meth c C => ?_)
  intro H locs ls hP hS hl
  have hl : lv_has ls 3 [(0, .ref (ea E b))] := hl
  obtain ⟨hx, hb, hr, hml, hown, hts, hlocks, hK, hX, hj⟩ := id C
  unfold fX5_weight at hf
  refine lv_sipush (v := 2000) hx hb dX5_weight_0 (by decide) ?_
  refine lv_istore_n (lv' := [(1, .int 2000), (0, .ref (ea E b))]) hx hb dX5_weight_3 rfl hl (by decide) rfl (fun ls hl => ?_)
  refine lv_iconst (v := 0) hx hb dX5_weight_4 (by decide) ?_
  refine lv_istore_n (lv' := [(2, .int 0), (1, .int 2000), (0, .ref (ea E b))]) hx hb dX5_weight_5 rfl hl (by decide) rfl (fun ls hl => ?_)
  exact b_fX5_weight_6 hfb σ C FU 2000 0 hf H locs ls hP hS (lv_sub hl [2, 1, 0] rfl)
