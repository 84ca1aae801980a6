def fX6_worstHarbour_9B (σ : St) (rec9 : Int32 → Int32 → Int32 → Int32 → Option Int32) (x1 : Int32) (x2 : Int32) (x3 : Int32) (x4 : Int32) : Option Int32 :=
(if 8 ≤ x4 then
some x1
else
(cq (fX6_countOf σ x4 (-1) (-1) 0) fun r2 =>
(cq (fX6_countOf σ x4 (-1) (-1) 1) fun r4 =>
(if r2 ≤ 0 then
rec9 x1 x2 x3 (x4 + 1)
else
(if ((r4 + 1) * x3) ≤ (x2 * (r2 + 2)) then
rec9 x1 x2 x3 (x4 + 1)
else
rec9 x4 (r4 + 1) (r2 + 2) (x4 + 1))))))
set_option maxHeartbeats 4000000 in
theorem b_fX6_worstHarbour_9B {E : Ev} {l : Launch} {p : Program} {e : Env} {s : State} {m : MethodId} {args : Array Value} {below : List Frame} {meth : Method} {c : Code} (σ : St) (C : CX true E RX6 cX6_worstHarbour 7 (some .int) p s m args meth c) {rr : Int32} (rec9 : Int32 → Int32 → Int32 → Int32 → Option Int32) (hr9 : ∀  (x1 : Int32) (x2 : Int32) (x3 : Int32) (x4 : Int32), rec9 x1 x2 x3 x4 = some rr → GW true l (rmD 3) E 7 p e s m args below meth c (MQ below (QI true E rr σ s.heap.size) args s 0 0 (aW true E s.heap.size)) σ 9 [(0, .ref (ea E 41)), (1, .int x1), (2, .int x2), (3, .int x3), (4, .int x4)] []) : ∀  (x1 : Int32) (x2 : Int32) (x3 : Int32) (x4 : Int32), fX6_worstHarbour_9B σ rec9 x1 x2 x3 x4 = some rr → GW true l (rmD 3) E 7 p e s m args below meth c (MQ below (QI true E rr σ s.heap.size) args s 0 0 (aW true E s.heap.size)) σ 9 [(0, .ref (ea E 41)), (1, .int x1), (2, .int x2), (3, .int x3), (4, .int x4)] [] := by
  intro x1 x2 x3 x4 hf H locs ls hP hS hl
  obtain ⟨hx, hb, hr, hml, hown, hts, hlocks, hK, hX, hj⟩ := id C
  unfold fX6_worstHarbour_9B at hf
  refine lv_iload hx hb dX6_worstHarbour_9 (lv_at hl 4 rfl) ?_
  refine lv_bipush (v := 8) hx hb dX6_worstHarbour_11 (by decide) ?_
  refine lv_icmp_ge (tgt := 75) hx hb dX6_worstHarbour_13 (by decide) (fun c1 => ?_) (fun c1 => ?_)
  · replace hf := it_t c1 hf
    refine lv_iload_n hx hb dX6_worstHarbour_75 rfl (lv_at hl 1 rfl) ?_
    cases hf
    exact r_iret C hP hS dX6_worstHarbour_76
  · replace hf := it_f c1 hf
    refine lv_aload_n hx hb dX6_worstHarbour_16 rfl (lv_at hl 0 rfl) ?_
    refine lv_iload hx hb dX6_worstHarbour_17 (lv_at hl 4 rfl) ?_
    refine lv_iconst (v := (-1)) hx hb dX6_worstHarbour_19 (by decide) ?_
    refine lv_iconst (v := (-1)) hx hb dX6_worstHarbour_20 (by decide) ?_
    refine lv_iconst (v := 0) hx hb dX6_worstHarbour_21 (by decide) ?_
    obtain ⟨r2, hc3, hf⟩ := cq_e hf
    refine r_cVi (n := 4) (As := [.int x4, .int (-1), .int (-1), .int 0]) (rest := []) C (c_fX6_countOf hj σ H.size x4 (-1) (-1) 0 hc3) oC_41 rfl gv_RX6_29 (by decide +kernel) (rmD_le (by decide) (by decide)) rfl rfl (Nat.le_of_ble_eq_true rfl) dX6_worstHarbour_22 hP hS hl.1 (fun H locs hP hS => ?_)
    refine lv_istore (lv' := [(5, .int r2), (0, .ref (ea E 41)), (1, .int x1), (2, .int x2), (3, .int x3), (4, .int x4)]) hx hb dX6_worstHarbour_25 hl (by decide) rfl (fun ls hl => ?_)
    refine lv_aload_n hx hb dX6_worstHarbour_27 rfl (lv_at hl 1 rfl) ?_
    refine lv_iload hx hb dX6_worstHarbour_28 (lv_at hl 5 rfl) ?_
    refine lv_iconst (v := (-1)) hx hb dX6_worstHarbour_30 (by decide) ?_
    refine lv_iconst (v := (-1)) hx hb dX6_worstHarbour_31 (by decide) ?_
    refine lv_iconst (v := 1) hx hb dX6_worstHarbour_32 (by decide) ?_
    obtain ⟨r4, hc5, hf⟩ := cq_e hf
    refine r_cVi (n := 4) (As := [.int x4, .int (-1), .int (-1), .int 1]) (rest := []) C (c_fX6_countOf hj σ H.size x4 (-1) (-1) 1 hc5) oC_41 rfl gv_RX6_29 (by decide +kernel) (rmD_le (by decide) (by decide)) rfl rfl (Nat.le_of_ble_eq_true rfl) dX6_worstHarbour_33 hP hS hl.1 (fun H locs hP hS => ?_)
    refine lv_iconst (v := 1) hx hb dX6_worstHarbour_36 (by decide) ?_
    refine lv_iadd hx hb dX6_worstHarbour_37 ?_
    refine lv_istore (lv' := [(6, .int (r4 + 1)), (5, .int r2), (0, .ref (ea E 41)), (1, .int x1), (2, .int x2), (3, .int x3), (4, .int x4)]) hx hb dX6_worstHarbour_38 hl (by decide) rfl (fun ls hl => ?_)
    refine lv_iload hx hb dX6_worstHarbour_40 (lv_at hl 1 rfl) ?_
    refine lv_if_le (tgt := 69) hx hb dX6_worstHarbour_42 (by decide) (fun c6 => ?_) (fun c6 => ?_)
    · replace hf := it_t c6 hf
      refine lv_iinc (v := (x4 + 1)) (lv' := [(4, .int (x4 + 1)), (6, .int (r4 + 1)), (5, .int r2), (0, .ref (ea E 41)), (1, .int x1), (2, .int x2), (3, .int x3)]) hx hb dX6_worstHarbour_69 hl (k := 6) rfl rfl (by decide) rfl (fun ls hl => ?_)
      refine lv_goto (tgt := 9) hx hb dX6_worstHarbour_72 (by decide) ?_
      exact hr9 x1 x2 x3 (x4 + 1) hf H locs ls hP hS (lv_sub hl [3, 4, 5, 6, 0] rfl)
    · replace hf := it_f c6 hf
      refine lv_iload hx hb dX6_worstHarbour_45 (lv_at hl 0 rfl) ?_
      refine lv_iload_n hx hb dX6_worstHarbour_47 rfl (lv_at hl 5 rfl) ?_
      refine lv_imul hx hb dX6_worstHarbour_48 ?_
      refine lv_iload_n hx hb dX6_worstHarbour_49 rfl (lv_at hl 4 rfl) ?_
      refine lv_iload hx hb dX6_worstHarbour_50 (lv_at hl 1 rfl) ?_
      refine lv_iconst (v := 2) hx hb dX6_worstHarbour_52 (by decide) ?_
      refine lv_iadd hx hb dX6_worstHarbour_53 ?_
      refine lv_imul hx hb dX6_worstHarbour_54 ?_
      refine lv_icmp_le (tgt := 69) hx hb dX6_worstHarbour_55 (by decide) (fun c7 => ?_) (fun c7 => ?_)
      · replace hf := it_t c7 hf
        refine lv_iinc (v := (x4 + 1)) (lv' := [(4, .int (x4 + 1)), (6, .int (r4 + 1)), (5, .int r2), (0, .ref (ea E 41)), (1, .int x1), (2, .int x2), (3, .int x3)]) hx hb dX6_worstHarbour_69 hl (k := 6) rfl rfl (by decide) rfl (fun ls hl => ?_)
        refine lv_goto (tgt := 9) hx hb dX6_worstHarbour_72 (by decide) ?_
        exact hr9 x1 x2 x3 (x4 + 1) hf H locs ls hP hS (lv_sub hl [3, 4, 5, 6, 0] rfl)
      · replace hf := it_f c7 hf
        refine lv_iload hx hb dX6_worstHarbour_58 (lv_at hl 6 rfl) ?_
        refine lv_istore_n (lv' := [(1, .int x4), (6, .int (r4 + 1)), (5, .int r2), (0, .ref (ea E 41)), (2, .int x2), (3, .int x3), (4, .int x4)]) hx hb dX6_worstHarbour_60 rfl hl (by decide) rfl (fun ls hl => ?_)
        refine lv_iload hx hb dX6_worstHarbour_61 (lv_at hl 1 rfl) ?_
        refine lv_istore_n (lv' := [(2, .int (r4 + 1)), (1, .int x4), (6, .int (r4 + 1)), (5, .int r2), (0, .ref (ea E 41)), (3, .int x3), (4, .int x4)]) hx hb dX6_worstHarbour_63 rfl hl (by decide) rfl (fun ls hl => ?_)
        refine lv_iload hx hb dX6_worstHarbour_64 (lv_at hl 3 rfl) ?_
        refine lv_iconst (v := 2) hx hb dX6_worstHarbour_66 (by decide) ?_
        refine lv_iadd hx hb dX6_worstHarbour_67 ?_
        refine lv_istore_n (lv' := [(3, .int (r2 + 2)), (2, .int (r4 + 1)), (1, .int x4), (6, .int (r4 + 1)), (5, .int r2), (0, .ref (ea E 41)), (4, .int x4)]) hx hb dX6_worstHarbour_68 rfl hl (by decide) rfl (fun ls hl => ?_)
        refine lv_iinc (v := (x4 + 1)) (lv' := [(4, .int (x4 + 1)), (3, .int (r2 + 2)), (2, .int (r4 + 1)), (1, .int x4), (6, .int (r4 + 1)), (5, .int r2), (0, .ref (ea E 41))]) hx hb dX6_worstHarbour_69 hl (k := 6) rfl rfl (by decide) rfl (fun ls hl => ?_)
        refine lv_goto (tgt := 9) hx hb dX6_worstHarbour_72 (by decide) ?_
        exact hr9 x4 (r4 + 1) (r2 + 2) (x4 + 1) hf H locs ls hP hS (lv_sub hl [6, 3, 2, 1, 0] rfl)
def fX6_worstHarbour_9 (σ : St) : Nat → Int32 → Int32 → Int32 → Int32 → Option Int32
  | 0 => fun _ _ _ _ => none
  | n + 1 => fun x1 x2 x3 x4 => fX6_worstHarbour_9B σ (fX6_worstHarbour_9 σ n) x1 x2 x3 x4
theorem b_fX6_worstHarbour_9 {E : Ev} {l : Launch} {p : Program} {e : Env} {s : State} {m : MethodId} {args : Array Value} {below : List Frame} {meth : Method} {c : Code} (σ : St) (C : CX true E RX6 cX6_worstHarbour 7 (some .int) p s m args meth c) {rr : Int32} : ∀ (n : Nat) (x1 : Int32) (x2 : Int32) (x3 : Int32) (x4 : Int32), fX6_worstHarbour_9 σ n x1 x2 x3 x4 = some rr → GW true l (rmD 3) E 7 p e s m args below meth c (MQ below (QI true E rr σ s.heap.size) args s 0 0 (aW true E s.heap.size)) σ 9 [(0, .ref (ea E 41)), (1, .int x1), (2, .int x2), (3, .int x3), (4, .int x4)] [] := by
  intro n
  induction n with
  | zero => intro x1 x2 x3 x4 hf; have hf : (none : Option _) = some _ := hf; cases hf
  | succ n ih => intro x1 x2 x3 x4 hf; exact b_fX6_worstHarbour_9B σ C (fX6_worstHarbour_9 σ n) ih x1 x2 x3 x4 hf
def fX6_worstHarbour (σ : St) : Option Int32 :=
fX6_worstHarbour_9 σ FU (-1) 0 1 0
set_option maxHeartbeats 4000000 in
theorem c_fX6_worstHarbour {E : Ev} {l : Launch} (hj : jW true E) (σ : St) (sz : Nat) {rr : Int32} (hf : fX6_worstHarbour σ = some rr) : Met l yX6_worstHarbour (Cond.code yX6_worstHarbour cX6_worstHarbour 7 (some .int) :: gT) (rmD 3) (va_Pc [.ref (ea E 41)] (preW true E σ sz)) (QI true E rr σ sz) 0 0 (aW true E sz) := by
  refine r_entry (QI true E rr σ) hj (by decide) [.ref (ea E 41)] (Nat.le_of_ble_eq_true rfl) (fun p e s m args below meth c C => ?_)
  intro H locs ls hP hS hl
  have hl : lv_has ls 7 [(0, .ref (ea E 41))] := hl
  obtain ⟨hx, hb, hr, hml, hown, hts, hlocks, hK, hX, hj⟩ := id C
  unfold fX6_worstHarbour at hf
  refine lv_iconst (v := (-1)) hx hb dX6_worstHarbour_0 (by decide) ?_
  refine lv_istore_n (lv' := [(1, .int (-1)), (0, .ref (ea E 41))]) hx hb dX6_worstHarbour_1 rfl hl (by decide) rfl (fun ls hl => ?_)
  refine lv_iconst (v := 0) hx hb dX6_worstHarbour_2 (by decide) ?_
  refine lv_istore_n (lv' := [(2, .int 0), (1, .int (-1)), (0, .ref (ea E 41))]) hx hb dX6_worstHarbour_3 rfl hl (by decide) rfl (fun ls hl => ?_)
  refine lv_iconst (v := 1) hx hb dX6_worstHarbour_4 (by decide) ?_
  refine lv_istore_n (lv' := [(3, .int 1), (2, .int 0), (1, .int (-1)), (0, .ref (ea E 41))]) hx hb dX6_worstHarbour_5 rfl hl (by decide) rfl (fun ls hl => ?_)
  refine lv_iconst (v := 0) hx hb dX6_worstHarbour_6 (by decide) ?_
  refine lv_istore (lv' := [(4, .int 0), (3, .int 1), (2, .int 0), (1, .int (-1)), (0, .ref (ea E 41))]) hx hb dX6_worstHarbour_7 hl (by decide) rfl (fun ls hl => ?_)
  exact b_fX6_worstHarbour_9 σ C FU (-1) 0 1 0 hf H locs ls hP hS (lv_sub hl [4, 3, 2, 1, 0] rfl)
def fX7_tell (σ : St) (a0 : Int32) (a1 : Int32) (a2 : Int32) : Option (Int32 × St) :=
(if (fX10_within a0 30) = 0 then
some (0, σ)
else
(if (fX10_within a1 10) = 0 then
some (0, σ)
else
(if (fX10_within a2 10) = 0 then
some (0, σ)
else
(wrK 30 σ 3 a0 a1 fun σ4 =>
(wrK 30 σ4 4 a0 a2 fun σ6 =>
some (1, σ6))))))
set_option maxHeartbeats 4000000 in
theorem c_fX7_tell {E : Ev} {l : Launch} (hj : jW true E) (σ : St) (sz : Nat) (a0 : Int32) (a1 : Int32) (a2 : Int32) {rr : Int32} {sr : St} (hf : fX7_tell σ a0 a1 a2 = some (rr, sr)) : Met l yX7_tell (Cond.code yX7_tell cX7_tell 4 (some .boolean) :: gT) (rmD 2) (va_Pc [.ref (ea E 2), .int a0, .int a1, .int a2] (preW true E σ sz)) (QI true E rr sr sz) 0 0 (aW true E sz) := by
  refine r_entry (QI true E rr sr) hj (by decide) [.ref (ea E 2), .int a0, .int a1, .int a2] (Nat.le_of_ble_eq_true rfl) (fun p e s m args below meth c C => ?_)
  intro H locs ls hP hS hl
  have hl : lv_has ls 4 [(0, .ref (ea E 2)), (1, .int a0), (2, .int a1), (3, .int a2)] := hl
  obtain ⟨hx, hb, hr, hml, hown, hts, hlocks, hK, hX, hj⟩ := id C
  unfold fX7_tell at hf
  refine lv_iload_n hx hb dX7_tell_0 rfl (lv_at hl 1 rfl) ?_
  refine lv_bipush (v := 30) hx hb dX7_tell_1 (by decide) ?_
  refine r_cNi (n := 2) (As := [.int a0, .int 30]) (rest := []) (host := "SoupCargo") C (c_fX10_within hj σ H.size a0 30) (by decide +kernel) wm_t343 wm_t1 wm_t342 (by decide +kernel) (rmD_le (by decide) (by decide)) rfl rfl (Nat.le_of_ble_eq_true rfl) dX7_tell_3 hP hS hl.1 (fun H locs hP hS => ?_)
  refine lv_if_eq (tgt := 27) hx hb dX7_tell_6 (by decide) (fun c1 => ?_) (fun c1 => ?_)
  · replace hf := it_t c1 hf
    refine lv_iconst (v := 0) hx hb dX7_tell_27 (by decide) ?_
    cases hf
    exact r_zret C rfl hP hS dX7_tell_28
  · replace hf := it_f c1 hf
    refine lv_iload_n hx hb dX7_tell_9 rfl (lv_at hl 2 rfl) ?_
    refine lv_bipush (v := 10) hx hb dX7_tell_10 (by decide) ?_
    refine r_cNi (n := 2) (As := [.int a1, .int 10]) (rest := []) (host := "SoupCargo") C (c_fX10_within hj σ H.size a1 10) (by decide +kernel) wm_t343 wm_t1 wm_t342 (by decide +kernel) (rmD_le (by decide) (by decide)) rfl rfl (Nat.le_of_ble_eq_true rfl) dX7_tell_12 hP hS hl.1 (fun H locs hP hS => ?_)
    refine lv_if_eq (tgt := 27) hx hb dX7_tell_15 (by decide) (fun c2 => ?_) (fun c2 => ?_)
    · replace hf := it_t c2 hf
      refine lv_iconst (v := 0) hx hb dX7_tell_27 (by decide) ?_
      cases hf
      exact r_zret C rfl hP hS dX7_tell_28
    · replace hf := it_f c2 hf
      refine lv_iload_n hx hb dX7_tell_18 rfl (lv_at hl 3 rfl) ?_
      refine lv_bipush (v := 10) hx hb dX7_tell_19 (by decide) ?_
      refine r_cNi (n := 2) (As := [.int a2, .int 10]) (rest := []) (host := "SoupCargo") C (c_fX10_within hj σ H.size a2 10) (by decide +kernel) wm_t343 wm_t1 wm_t342 (by decide +kernel) (rmD_le (by decide) (by decide)) rfl rfl (Nat.le_of_ble_eq_true rfl) dX7_tell_21 hP hS hl.1 (fun H locs hP hS => ?_)
      refine lv_if_ne (tgt := 29) hx hb dX7_tell_24 (by decide) (fun c3 => ?_) (fun c3 => ?_)
      · replace hf := it_f c3 hf
        refine lv_aload_n hx hb dX7_tell_29 rfl (lv_at hl 0 rfl) ?_
        refine r_get (k := 0) (v := .ref (ea E 3)) C hP oC_2 rfl iX7 (by decide) wm_t35 rfl rfl dX7_tell_30 ?_
        refine lv_iload_n hx hb dX7_tell_33 rfl (lv_at hl 1 rfl) ?_
        refine lv_iload_n hx hb dX7_tell_34 rfl (lv_at hl 2 rfl) ?_
        obtain ⟨h5, σ4, eσ4, hf⟩ := wrK_e hf
        refine r_ast C hP hS aC_3 h5 dX7_tell_35 (fun H locs hP hS => ?_)
        rw [← eσ4] at hP
        refine lv_aload_n hx hb dX7_tell_36 rfl (lv_at hl 0 rfl) ?_
        refine r_get (k := 1) (v := .ref (ea E 4)) C hP oC_2 rfl iX7 (by decide) wm_t36 rfl rfl dX7_tell_37 ?_
        refine lv_iload_n hx hb dX7_tell_40 rfl (lv_at hl 1 rfl) ?_
        refine lv_iload_n hx hb dX7_tell_41 rfl (lv_at hl 3 rfl) ?_
        obtain ⟨h7, σ6, eσ6, hf⟩ := wrK_e hf
        refine r_ast C hP hS aC_4 h7 dX7_tell_42 (fun H locs hP hS => ?_)
        rw [← eσ6] at hP
        refine lv_iconst (v := 1) hx hb dX7_tell_43 (by decide) ?_
        cases hf
        exact r_zret C rfl hP hS dX7_tell_44
      · replace hf := it_t c3 hf
        refine lv_iconst (v := 0) hx hb dX7_tell_27 (by decide) ?_
        cases hf
        exact r_zret C rfl hP hS dX7_tell_28
def fX7_rainAt (σ : St) (a0 : Int32) : Option Int32 :=
(if (fX10_within a0 720) = 0 then
some 0
else
(rdK 30 (σ 3) (a0 / 24) fun v2 =>
some v2))
set_option maxHeartbeats 4000000 in
theorem c_fX7_rainAt {E : Ev} {l : Launch} (hj : jW true E) (σ : St) (sz : Nat) (a0 : Int32) {rr : Int32} (hf : fX7_rainAt σ a0 = some rr) : Met l yX7_rainAt (Cond.code yX7_rainAt cX7_rainAt 2 (some .int) :: gT) (rmD 2) (va_Pc [.ref (ea E 2), .int a0] (preW true E σ sz)) (QI true E rr σ sz) 0 0 (aW true E sz) := by
  refine r_entry (QI true E rr σ) hj (by decide) [.ref (ea E 2), .int a0] (Nat.le_of_ble_eq_true rfl) (fun p e s m args below meth c C => ?_)
  intro H locs ls hP hS hl
  have hl : lv_has ls 2 [(0, .ref (ea E 2)), (1, .int a0)] := hl
  obtain ⟨hx, hb, hr, hml, hown, hts, hlocks, hK, hX, hj⟩ := id C
  unfold fX7_rainAt at hf
  refine lv_iload_n hx hb dX7_rainAt_0 rfl (lv_at hl 1 rfl) ?_
  refine lv_sipush (v := 720) hx hb dX7_rainAt_1 (by decide) ?_
  refine r_cNi (n := 2) (As := [.int a0, .int 720]) (rest := []) (host := "SoupCargo") C (c_fX10_within hj σ H.size a0 720) (by decide +kernel) wm_t343 wm_t1 wm_t342 (by decide +kernel) (rmD_le (by decide) (by decide)) rfl rfl (Nat.le_of_ble_eq_true rfl) dX7_rainAt_4 hP hS hl.1 (fun H locs hP hS => ?_)
  refine lv_if_eq (tgt := 22) hx hb dX7_rainAt_7 (by decide) (fun c1 => ?_) (fun c1 => ?_)
  · replace hf := it_t c1 hf
    refine lv_iconst (v := 0) hx hb dX7_rainAt_22 (by decide) ?_
    cases hf
    exact r_iret C hP hS dX7_rainAt_23
  · replace hf := it_f c1 hf
    refine lv_aload_n hx hb dX7_rainAt_10 rfl (lv_at hl 0 rfl) ?_
    refine r_get (k := 0) (v := .ref (ea E 3)) C hP oC_2 rfl iX7 (by decide) wm_t35 rfl rfl dX7_rainAt_11 ?_
    refine lv_iload_n hx hb dX7_rainAt_14 rfl (lv_at hl 1 rfl) ?_
    refine lv_bipush (v := 24) hx hb dX7_rainAt_15 (by decide) ?_
    refine lv_idiv hx hb dX7_rainAt_17 (by decide) ?_
    have h3 := (rdK_e hf).1
    refine r_ald C hP aC_3 h3 dX7_rainAt_18 ?_
    refine lv_topi (fun v2 ev2 => ?_)
    replace hf := rdK_n ev2 hf
    refine lv_goto (tgt := 23) hx hb dX7_rainAt_19 (by decide) ?_
    cases hf
    exact r_iret C hP hS dX7_rainAt_23
def fX7_swellAt (σ : St) (a0 : Int32) : Option Int32 :=
(if (fX10_within a0 720) = 0 then
some 0
else
(rdK 30 (σ 4) (a0 / 24) fun v2 =>
some v2))
set_option maxHeartbeats 4000000 in
theorem c_fX7_swellAt {E : Ev} {l : Launch} (hj : jW true E) (σ : St) (sz : Nat) (a0 : Int32) {rr : Int32} (hf : fX7_swellAt σ a0 = some rr) : Met l yX7_swellAt (Cond.code yX7_swellAt cX7_swellAt 2 (some .int) :: gT) (rmD 2) (va_Pc [.ref (ea E 2), .int a0] (preW true E σ sz)) (QI true E rr σ sz) 0 0 (aW true E sz) := by
  refine r_entry (QI true E rr σ) hj (by decide) [.ref (ea E 2), .int a0] (Nat.le_of_ble_eq_true rfl) (fun p e s m args below meth c C => ?_)
  intro H locs ls hP hS hl
  have hl : lv_has ls 2 [(0, .ref (ea E 2)), (1, .int a0)] := hl
  obtain ⟨hx, hb, hr, hml, hown, hts, hlocks, hK, hX, hj⟩ := id C
  unfold fX7_swellAt at hf
  refine lv_iload_n hx hb dX7_swellAt_0 rfl (lv_at hl 1 rfl) ?_
  refine lv_sipush (v := 720) hx hb dX7_swellAt_1 (by decide) ?_
  refine r_cNi (n := 2) (As := [.int a0, .int 720]) (rest := []) (host := "SoupCargo") C (c_fX10_within hj σ H.size a0 720) (by decide +kernel) wm_t343 wm_t1 wm_t342 (by decide +kernel) (rmD_le (by decide) (by decide)) rfl rfl (Nat.le_of_ble_eq_true rfl) dX7_swellAt_4 hP hS hl.1 (fun H locs hP hS => ?_)
  refine lv_if_eq (tgt := 22) hx hb dX7_swellAt_7 (by decide) (fun c1 => ?_) (fun c1 => ?_)
  · replace hf := it_t c1 hf
    refine lv_iconst (v := 0) hx hb dX7_swellAt_22 (by decide) ?_
    cases hf
    exact r_iret C hP hS dX7_swellAt_23
  · replace hf := it_f c1 hf
    refine lv_aload_n hx hb dX7_swellAt_10 rfl (lv_at hl 0 rfl) ?_
    refine r_get (k := 1) (v := .ref (ea E 4)) C hP oC_2 rfl iX7 (by decide) wm_t36 rfl rfl dX7_swellAt_11 ?_
    refine lv_iload_n hx hb dX7_swellAt_14 rfl (lv_at hl 1 rfl) ?_
    refine lv_bipush (v := 24) hx hb dX7_swellAt_15 (by decide) ?_
    refine lv_idiv hx hb dX7_swellAt_17 (by decide) ?_
    have h3 := (rdK_e hf).1
    refine r_ald C hP aC_4 h3 dX7_swellAt_18 ?_
    refine lv_topi (fun v2 ev2 => ?_)
    replace hf := rdK_n ev2 hf
    refine lv_goto (tgt := 23) hx hb dX7_swellAt_19 (by decide) ?_
    cases hf
    exact r_iret C hP hS dX7_swellAt_23
def fX8_height_20B (b : Nat) (σ : St) (rec20 : Int32 → Int32 → Option Int32) (x1 : Int32) (x2 : Int32) : Option Int32 :=
(if x2 < 0 then
some 0
else
(rdK (stN b) (σ (b + 1)) ((x1 * (σ b 1)) + x2) fun v2 =>
(if v2 ≤ 0 then
rec20 x1 (x2 + (-1))
else
some (x2 + 1))))
set_option maxHeartbeats 4000000 in
theorem b_fX8_height_20B {E : Ev} {l : Launch} {p : Program} {e : Env} {s : State} {m : MethodId} {args : Array Value} {below : List Frame} {meth : Method} {c : Code} {b : Nat} (hfb : fS b) (σ : St) (C : CX true E RX8 cX8_height 3 (some .int) p s m args meth c) {rr : Int32} (rec20 : Int32 → Int32 → Option Int32) (hr20 : ∀  (x1 : Int32) (x2 : Int32), rec20 x1 x2 = some rr → GW true l (rmD 2) E 3 p e s m args below meth c (MQ below (QI true E rr σ s.heap.size) args s 0 0 (aW true E s.heap.size)) σ 20 [(0, .ref (ea E b)), (1, .int x1), (2, .int x2)] []) : ∀  (x1 : Int32) (x2 : Int32), fX8_height_20B b σ rec20 x1 x2 = some rr → GW true l (rmD 2) E 3 p e s m args below meth c (MQ below (QI true E rr σ s.heap.size) args s 0 0 (aW true E s.heap.size)) σ 20 [(0, .ref (ea E b)), (1, .int x1), (2, .int x2)] [] := by
  intro x1 x2 hf H locs ls hP hS hl
  obtain ⟨hx, hb, hr, hml, hown, hts, hlocks, hK, hX, hj⟩ := id C
  unfold fX8_height_20B at hf
  refine lv_iload_n hx hb dX8_height_20 rfl (lv_at hl 2 rfl) ?_
  refine lv_if_lt (tgt := 50) hx hb dX8_height_21 (by decide) (fun c1 => ?_) (fun c1 => ?_)
  · replace hf := it_t c1 hf
    refine lv_iconst (v := 0) hx hb dX8_height_50 (by decide) ?_
    cases hf
    exact r_iret C hP hS dX8_height_51
  · replace hf := it_f c1 hf
    refine lv_aload_n hx hb dX8_height_24 rfl (lv_at hl 0 rfl) ?_
    refine r_get (k := 3) (v := .ref (ea E (b + 1))) C hP (oS hfb) rfl iX8 (by decide) wm_t55 rfl rfl dX8_height_25 ?_
    refine lv_iload_n hx hb dX8_height_28 rfl (lv_at hl 1 rfl) ?_
    refine lv_aload_n hx hb dX8_height_29 rfl (lv_at hl 0 rfl) ?_
    refine r_get (k := 1) (v := .int (σ b 1)) C hP (oS hfb) rfl iX8 (by decide) wm_t53 rfl rfl dX8_height_30 ?_
    refine lv_imul hx hb dX8_height_33 ?_
    refine lv_iload_n hx hb dX8_height_34 rfl (lv_at hl 2 rfl) ?_
    refine lv_iadd hx hb dX8_height_35 ?_
    have h3 := (rdK_e hf).1
    refine r_ald C hP (aS_1 hfb) h3 dX8_height_36 ?_
    refine lv_topi (fun v2 ev2 => ?_)
    replace hf := rdK_n ev2 hf
    refine lv_if_le (tgt := 44) hx hb dX8_height_37 (by decide) (fun c4 => ?_) (fun c4 => ?_)
    · replace hf := it_t c4 hf
      refine lv_iinc (v := (x2 + (-1))) (lv' := [(2, .int (x2 + (-1))), (0, .ref (ea E b)), (1, .int x1)]) hx hb dX8_height_44 hl (k := 2) rfl rfl (by decide) rfl (fun ls hl => ?_)
      refine lv_goto (tgt := 20) hx hb dX8_height_47 (by decide) ?_
      exact hr20 x1 (x2 + (-1)) hf H locs ls hP hS (lv_sub hl [1, 2, 0] rfl)
    · replace hf := it_f c4 hf
      refine lv_iload_n hx hb dX8_height_40 rfl (lv_at hl 2 rfl) ?_
      refine lv_iconst (v := 1) hx hb dX8_height_41 (by decide) ?_
      refine lv_iadd hx hb dX8_height_42 ?_
      cases hf
      exact r_iret C hP hS dX8_height_43
def fX8_height_20 (b : Nat) (σ : St) : Nat → Int32 → Int32 → Option Int32
  | 0 => fun _ _ => none
  | n + 1 => fun x1 x2 => fX8_height_20B b σ (fX8_height_20 b σ n) x1 x2
theorem b_fX8_height_20 {E : Ev} {l : Launch} {p : Program} {e : Env} {s : State} {m : MethodId} {args : Array Value} {below : List Frame} {meth : Method} {c : Code} {b : Nat} (hfb : fS b) (σ : St) (C : CX true E RX8 cX8_height 3 (some .int) p s m args meth c) {rr : Int32} : ∀ (n : Nat) (x1 : Int32) (x2 : Int32), fX8_height_20 b σ n x1 x2 = some rr → GW true l (rmD 2) E 3 p e s m args below meth c (MQ below (QI true E rr σ s.heap.size) args s 0 0 (aW true E s.heap.size)) σ 20 [(0, .ref (ea E b)), (1, .int x1), (2, .int x2)] [] := by
  intro n
  induction n with
  | zero => intro x1 x2 hf; have hf : (none : Option _) = some _ := hf; cases hf
  | succ n ih => intro x1 x2 hf; exact b_fX8_height_20B hfb σ C (fX8_height_20 b σ n) ih x1 x2 hf
def fX8_height (b : Nat) (σ : St) (a0 : Int32) : Option Int32 :=
(if (fX10_within a0 (σ b 0)) = 0 then
some 0
else
fX8_height_20 b σ FU a0 ((σ b 1) - 1))
set_option maxHeartbeats 4000000 in
theorem c_fX8_height {E : Ev} {l : Launch} {b : Nat} (hfb : fS b) (hj : jW true E) (σ : St) (sz : Nat) (a0 : Int32) {rr : Int32} (hf : fX8_height b σ a0 = some rr) : Met l yX8_height (Cond.code yX8_height cX8_height 3 (some .int) :: gT) (rmD 2) (va_Pc [.ref (ea E b), .int a0] (preW true E σ sz)) (QI true E rr σ sz) 0 0 (aW true E sz) := by
  refine r_entry (QI true E rr σ) hj (by decide) [.ref (ea E b), .int a0] (Nat.le_of_ble_eq_true rfl) (fun p e s m args below meth c C => ?_)
  intro H locs ls hP hS hl
  have hl : lv_has ls 3 [(0, .ref (ea E b)), (1, .int a0)] := hl
  obtain ⟨hx, hb, hr, hml, hown, hts, hlocks, hK, hX, hj⟩ := id C
  unfold fX8_height at hf
  refine lv_iload_n hx hb dX8_height_0 rfl (lv_at hl 1 rfl) ?_
  refine lv_aload_n hx hb dX8_height_1 rfl (lv_at hl 0 rfl) ?_
  refine r_get (k := 0) (v := .int (σ b 0)) C hP (oS hfb) rfl iX8 (by decide) wm_t52 rfl rfl dX8_height_2 ?_
  refine r_cNi (n := 2) (As := [.int a0, .int (σ b 0)]) (rest := []) (host := "SoupCargo") C (c_fX10_within hj σ H.size a0 (σ b 0)) (by decide +kernel) wm_t343 wm_t1 wm_t342 (by decide +kernel) (rmD_le (by decide) (by decide)) rfl rfl (Nat.le_of_ble_eq_true rfl) dX8_height_5 hP hS hl.1 (fun H locs hP hS => ?_)
  refine lv_if_ne (tgt := 13) hx hb dX8_height_8 (by decide) (fun c1 => ?_) (fun c1 => ?_)
  · replace hf := it_f c1 hf
    refine lv_aload_n hx hb dX8_height_13 rfl (lv_at hl 0 rfl) ?_
    refine r_get (k := 1) (v := .int (σ b 1)) C hP (oS hfb) rfl iX8 (by decide) wm_t53 rfl rfl dX8_height_14 ?_
    refine lv_iconst (v := 1) hx hb dX8_height_17 (by decide) ?_
    refine lv_isub hx hb dX8_height_18 ?_
    refine lv_istore_n (lv' := [(2, .int ((σ b 1) - 1)), (0, .ref (ea E b)), (1, .int a0)]) hx hb dX8_height_19 rfl hl (by decide) rfl (fun ls hl => ?_)
    exact b_fX8_height_20 hfb σ C FU a0 ((σ b 1) - 1) hf H locs ls hP hS (lv_sub hl [1, 2, 0] rfl)
  · replace hf := it_t c1 hf
    refine lv_iconst (v := 0) hx hb dX8_height_11 (by decide) ?_
    cases hf
    exact r_iret C hP hS dX8_height_12
def fX8_isLit_15 (b : Nat) (σ : St) (x2 : Int32) (x3 : Int32) (y0 : Int32) : Option Int32 :=
(cq (fX2_clock σ) fun r1 =>
(if (fX10_within (r1 - y0) 6) = 0 then
some 0
else
(cq (fX8_height b σ x2) fun r4 =>
(if (x3 + 1) = r4 then
some 1
else
some 0))))
set_option maxHeartbeats 4000000 in
theorem b_fX8_isLit_15 {E : Ev} {l : Launch} {p : Program} {e : Env} {s : State} {m : MethodId} {args : Array Value} {below : List Frame} {meth : Method} {c : Code} {b : Nat} (hfb : fS b) (σ : St) (C : CX true E RX8 cX8_isLit 5 (some .boolean) p s m args meth c) {rr : Int32} : ∀  (x2 : Int32) (x3 : Int32) (y0 : Int32), fX8_isLit_15 b σ x2 x3 y0 = some rr → GW true l (rmD 3) E 5 p e s m args below meth c (MQ below (QI true E rr σ s.heap.size) args s 0 0 (aW true E s.heap.size)) σ 15 [(0, .ref (ea E b)), (1, .ref (ea E 28)), (2, .int x2), (3, .int x3)] [.int y0] := by
  intro x2 x3 y0 hf H locs ls hP hS hl
  obtain ⟨hx, hb, hr, hml, hown, hts, hlocks, hK, hX, hj⟩ := id C
  unfold fX8_isLit_15 at hf
  refine lv_istore (lv' := [(4, .int y0), (0, .ref (ea E b)), (1, .ref (ea E 28)), (2, .int x2), (3, .int x3)]) hx hb dX8_isLit_15 hl (by decide) rfl (fun ls hl => ?_)
  refine lv_aload_n hx hb dX8_isLit_17 rfl (lv_at hl 2 rfl) ?_
  obtain ⟨r1, hc2, hf⟩ := cq_e hf
  refine r_cVi (n := 0) (As := []) (rest := []) C (c_fX2_clock hj σ H.size hc2) oC_28 rfl gv_RX8_75 (by decide +kernel) (rmD_le (by decide) (by decide)) rfl rfl (Nat.le_of_ble_eq_true rfl) dX8_isLit_18 hP hS hl.1 (fun H locs hP hS => ?_)
  refine lv_iload hx hb dX8_isLit_21 (lv_at hl 0 rfl) ?_
  refine lv_isub hx hb dX8_isLit_23 ?_
  refine lv_bipush (v := 6) hx hb dX8_isLit_24 (by decide) ?_
  refine r_cNi (n := 2) (As := [.int (r1 - y0), .int 6]) (rest := []) (host := "SoupCargo") C (c_fX10_within hj σ H.size (r1 - y0) 6) (by decide +kernel) wm_t343 wm_t1 wm_t342 (by decide +kernel) (rmD_le (by decide) (by decide)) rfl rfl (Nat.le_of_ble_eq_true rfl) dX8_isLit_26 hP hS hl.1 (fun H locs hP hS => ?_)
  refine lv_if_eq (tgt := 47) hx hb dX8_isLit_29 (by decide) (fun c3 => ?_) (fun c3 => ?_)
  · replace hf := it_t c3 hf
    refine lv_iconst (v := 0) hx hb dX8_isLit_47 (by decide) ?_
    cases hf
    exact r_zret C rfl hP hS dX8_isLit_48
  · replace hf := it_f c3 hf
    refine lv_iload_n hx hb dX8_isLit_32 rfl (lv_at hl 4 rfl) ?_
    refine lv_iconst (v := 1) hx hb dX8_isLit_33 (by decide) ?_
    refine lv_iadd hx hb dX8_isLit_34 ?_
    refine lv_aload_n hx hb dX8_isLit_35 rfl (lv_at hl 1 rfl) ?_
    refine lv_iload_n hx hb dX8_isLit_36 rfl (lv_at hl 3 rfl) ?_
    obtain ⟨r4, hc5, hf⟩ := cq_e hf
    refine r_cVi (n := 1) (As := [.int x2]) (rest := [.int (x3 + 1)]) C (c_fX8_height hfb hj σ H.size x2 hc5) (oS hfb) rfl gv_RX8_79 (by decide +kernel) (rmD_le (by decide) (by decide)) rfl rfl (Nat.le_of_ble_eq_true rfl) dX8_isLit_37 hP hS hl.1 (fun H locs hP hS => ?_)
    refine lv_icmp_ne (tgt := 47) hx hb dX8_isLit_40 (by decide) (fun c6 => ?_) (fun c6 => ?_)
    · replace hf := it_f c6 hf
      refine lv_iconst (v := 0) hx hb dX8_isLit_47 (by decide) ?_
      cases hf
      exact r_zret C rfl hP hS dX8_isLit_48
    · replace hf := it_t c6 hf
      refine lv_iconst (v := 1) hx hb dX8_isLit_43 (by decide) ?_
      refine lv_goto (tgt := 48) hx hb dX8_isLit_44 (by decide) ?_
      cases hf
      exact r_zret C rfl hP hS dX8_isLit_48
def fX8_isLit (b : Nat) (σ : St) (a1 : Int32) (a2 : Int32) : Option Int32 :=
(if 4 ≤ (a1 / 8) then
fX8_isLit_15 b σ a1 a2 12
else
fX8_isLit_15 b σ a1 a2 6)
set_option maxHeartbeats 4000000 in
theorem c_fX8_isLit {E : Ev} {l : Launch} {b : Nat} (hfb : fS b) (hj : jW true E) (σ : St) (sz : Nat) (a1 : Int32) (a2 : Int32) {rr : Int32} (hf : fX8_isLit b σ a1 a2 = some rr) : Met l yX8_isLit (Cond.code yX8_isLit cX8_isLit 5 (some .boolean) :: gT) (rmD 3) (va_Pc [.ref (ea E b), .ref (ea E 28), .int a1, .int a2] (preW true E σ sz)) (QI true E rr σ sz) 0 0 (aW true E sz) := by
  refine r_entry (QI true E rr σ) hj (by decide) [.ref (ea E b), .ref (ea E 28), .int a1, .int a2] (Nat.le_of_ble_eq_true rfl) (fun p e s m args below meth c C => ?_)
  intro H locs ls hP hS hl
  have hl : lv_has ls 5 [(0, .ref (ea E b)), (1, .ref (ea E 28)), (2, .int a1), (3, .int a2)] := hl
  obtain ⟨hx, hb, hr, hml, hown, hts, hlocks, hK, hX, hj⟩ := id C
  unfold fX8_isLit at hf
  refine lv_iload_n hx hb dX8_isLit_0 rfl (lv_at hl 2 rfl) ?_
  refine lv_bipush (v := 8) hx hb dX8_isLit_1 (by decide) ?_
  refine lv_idiv hx hb dX8_isLit_3 (by decide) ?_
  refine lv_iconst (v := 4) hx hb dX8_isLit_4 (by decide) ?_
  refine lv_icmp_ge (tgt := 13) hx hb dX8_isLit_5 (by decide) (fun c1 => ?_) (fun c1 => ?_)
  · replace hf := it_t c1 hf
    refine lv_bipush (v := 12) hx hb dX8_isLit_13 (by decide) ?_
    exact b_fX8_isLit_15 hfb σ C a1 a2 12 hf H locs ls hP hS (lv_sub hl [0, 1, 2, 3] rfl)
  · replace hf := it_f c1 hf
    refine lv_bipush (v := 6) hx hb dX8_isLit_8 (by decide) ?_
    refine lv_goto (tgt := 15) hx hb dX8_isLit_10 (by decide) ?_
    exact b_fX8_isLit_15 hfb σ C a1 a2 6 hf H locs ls hP hS (lv_sub hl [0, 1, 2, 3] rfl)
def fX8_topIsSoup (b : Nat) (σ : St) (a0 : Int32) : Option Int32 :=
(cq (fX8_height b σ a0) fun r1 =>
(if r1 ≤ 0 then
some 0
else
(rdK (stN b) (σ (b + 4)) (((a0 * (σ b 1)) + r1) - 1) fun v4 =>
(if v4 = 1 then
some 1
else
some 0))))
set_option maxHeartbeats 4000000 in
theorem c_fX8_topIsSoup {E : Ev} {l : Launch} {b : Nat} (hfb : fS b) (hj : jW true E) (σ : St) (sz : Nat) (a0 : Int32) {rr : Int32} (hf : fX8_topIsSoup b σ a0 = some rr) : Met l yX8_topIsSoup (Cond.code yX8_topIsSoup cX8_topIsSoup 3 (some .boolean) :: gT) (rmD 3) (va_Pc [.ref (ea E b), .int a0] (preW true E σ sz)) (QI true E rr σ sz) 0 0 (aW true E sz) := by
  refine r_entry (QI true E rr σ) hj (by decide) [.ref (ea E b), .int a0] (Nat.le_of_ble_eq_true rfl) (fun p e s m args below meth c C => ?_)
  intro H locs ls hP hS hl
  have hl : lv_has ls 3 [(0, .ref (ea E b)), (1, .int a0)] := hl
  obtain ⟨hx, hb, hr, hml, hown, hts, hlocks, hK, hX, hj⟩ := id C
  unfold fX8_topIsSoup at hf
  refine lv_aload_n hx hb dX8_topIsSoup_0 rfl (lv_at hl 0 rfl) ?_
  refine lv_iload_n hx hb dX8_topIsSoup_1 rfl (lv_at hl 1 rfl) ?_
  obtain ⟨r1, hc2, hf⟩ := cq_e hf
  refine r_cVi (n := 1) (As := [.int a0]) (rest := []) C (c_fX8_height hfb hj σ H.size a0 hc2) (oS hfb) rfl gv_RX8_79 (by decide +kernel) (rmD_le (by decide) (by decide)) rfl rfl (Nat.le_of_ble_eq_true rfl) dX8_topIsSoup_2 hP hS hl.1 (fun H locs hP hS => ?_)
  refine lv_istore_n (lv' := [(2, .int r1), (0, .ref (ea E b)), (1, .int a0)]) hx hb dX8_topIsSoup_5 rfl hl (by decide) rfl (fun ls hl => ?_)
  refine lv_iload_n hx hb dX8_topIsSoup_6 rfl (lv_at hl 0 rfl) ?_
  refine lv_if_le (tgt := 33) hx hb dX8_topIsSoup_7 (by decide) (fun c3 => ?_) (fun c3 => ?_)
  · replace hf := it_t c3 hf
    refine lv_iconst (v := 0) hx hb dX8_topIsSoup_33 (by decide) ?_
    cases hf
    exact r_zret C rfl hP hS dX8_topIsSoup_34
  · replace hf := it_f c3 hf
    refine lv_aload_n hx hb dX8_topIsSoup_10 rfl (lv_at hl 1 rfl) ?_
    refine r_get (k := 6) (v := .ref (ea E (b + 4))) C hP (oS hfb) rfl iX8 (by decide) wm_t65 rfl rfl dX8_topIsSoup_11 ?_
    refine lv_iload_n hx hb dX8_topIsSoup_14 rfl (lv_at hl 2 rfl) ?_
    refine lv_aload_n hx hb dX8_topIsSoup_15 rfl (lv_at hl 1 rfl) ?_
    refine r_get (k := 1) (v := .int (σ b 1)) C hP (oS hfb) rfl iX8 (by decide) wm_t53 rfl rfl dX8_topIsSoup_16 ?_
    refine lv_imul hx hb dX8_topIsSoup_19 ?_
    refine lv_iload_n hx hb dX8_topIsSoup_20 rfl (lv_at hl 0 rfl) ?_
    refine lv_iadd hx hb dX8_topIsSoup_21 ?_
    refine lv_iconst (v := 1) hx hb dX8_topIsSoup_22 (by decide) ?_
    refine lv_isub hx hb dX8_topIsSoup_23 ?_
    have h5 := (rdK_e hf).1
    refine r_ald C hP (aS_4 hfb) h5 dX8_topIsSoup_24 ?_
    refine lv_topi (fun v4 ev4 => ?_)
    replace hf := rdK_n ev4 hf
    refine lv_iconst (v := 1) hx hb dX8_topIsSoup_25 (by decide) ?_
    refine lv_icmp_ne (tgt := 33) hx hb dX8_topIsSoup_26 (by decide) (fun c6 => ?_) (fun c6 => ?_)
    · replace hf := it_f c6 hf
      refine lv_iconst (v := 0) hx hb dX8_topIsSoup_33 (by decide) ?_
      cases hf
      exact r_zret C rfl hP hS dX8_topIsSoup_34
    · replace hf := it_t c6 hf
      refine lv_iconst (v := 1) hx hb dX8_topIsSoup_29 (by decide) ?_
      refine lv_goto (tgt := 34) hx hb dX8_topIsSoup_30 (by decide) ?_
      cases hf
      exact r_zret C rfl hP hS dX8_topIsSoup_34
def fX8_moveTopL (σ : St) (a0 : Int32) (a2 : Int32) : Option (Int32 × St) :=
(cq (fX8_height 5 σ a0) fun r1 =>
(cq (fX8_height 12 σ a2) fun r3 =>
(if r1 = 0 then
some (0, σ)
else
(if (fX10_within a2 (σ 12 0)) = 0 then
some (0, σ)
else
(if r3 < (σ 12 1) then
(rdK (stN 5) (σ (5 + 1)) (((a0 * (σ 5 1)) + r1) - 1) fun v8 =>
(wrK (stN 12) σ (12 + 1) ((a2 * (σ 12 1)) + r3) v8 fun σ10 =>
(rdK (stN 5) (σ10 (5 + 2)) (((a0 * (σ 5 1)) + r1) - 1) fun v12 =>
(wrK (stN 12) σ10 (12 + 2) ((a2 * (σ 12 1)) + r3) v12 fun σ14 =>
(rdK (stN 5) (σ14 (5 + 3)) (((a0 * (σ 5 1)) + r1) - 1) fun v16 =>
(wrK (stN 12) σ14 (12 + 3) ((a2 * (σ 12 1)) + r3) v16 fun σ18 =>
(rdK (stN 5) (σ18 (5 + 4)) (((a0 * (σ 5 1)) + r1) - 1) fun v20 =>
(wrK (stN 12) σ18 (12 + 4) ((a2 * (σ 12 1)) + r3) v20 fun σ22 =>
(wrK (stN 5) σ22 (5 + 1) (((a0 * (σ 5 1)) + r1) - 1) 0 fun σ24 =>
(wrK (stN 5) σ24 (5 + 2) (((a0 * (σ 5 1)) + r1) - 1) 0 fun σ26 =>
(wrK (stN 5) σ26 (5 + 3) (((a0 * (σ 5 1)) + r1) - 1) 0 fun σ28 =>
(wrK (stN 5) σ28 (5 + 4) (((a0 * (σ 5 1)) + r1) - 1) 0 fun σ30 =>
some (1, σ30)))))))))))))
else
some (0, σ))))))
set_option maxHeartbeats 4000000 in
theorem c_fX8_moveTopL {E : Ev} {l : Launch} (hj : jW true E) (σ : St) (sz : Nat) (a0 : Int32) (a2 : Int32) {rr : Int32} {sr : St} (hf : fX8_moveTopL σ a0 a2 = some (rr, sr)) : Met l yX8_moveTop (Cond.code yX8_moveTop cX8_moveTop 8 (some .boolean) :: gT) (rmD 3) (va_Pc [.ref (ea E 5), .int a0, .ref (ea E 12), .int a2] (preW true E σ sz)) (QI true E rr sr sz) 0 0 (aW true E sz) := by
  refine r_entry (QI true E rr sr) hj (by decide) [.ref (ea E 5), .int a0, .ref (ea E 12), .int a2] (Nat.le_of_ble_eq_true rfl) (fun p e s m args below meth c C => ?_)
  intro H locs ls hP hS hl
  have hl : lv_has ls 8 [(0, .ref (ea E 5)), (1, .int a0), (2, .ref (ea E 12)), (3, .int a2)] := hl
  obtain ⟨hx, hb, hr, hml, hown, hts, hlocks, hK, hX, hj⟩ := id C
  unfold fX8_moveTopL at hf
  refine lv_aload_n hx hb dX8_moveTop_0 rfl (lv_at hl 0 rfl) ?_
  refine lv_iload_n hx hb dX8_moveTop_1 rfl (lv_at hl 1 rfl) ?_
  obtain ⟨r1, hc2, hf⟩ := cq_e hf
  refine r_cVi (n := 1) (As := [.int a0]) (rest := []) C (c_fX8_height fS_5 hj σ H.size a0 hc2) (oS fS_5) rfl gv_RX8_79 (by decide +kernel) (rmD_le (by decide) (by decide)) rfl rfl (Nat.le_of_ble_eq_true rfl) dX8_moveTop_2 hP hS hl.1 (fun H locs hP hS => ?_)
  refine lv_istore (lv' := [(4, .int r1), (0, .ref (ea E 5)), (1, .int a0), (2, .ref (ea E 12)), (3, .int a2)]) hx hb dX8_moveTop_5 hl (by decide) rfl (fun ls hl => ?_)
  refine lv_aload_n hx hb dX8_moveTop_7 rfl (lv_at hl 3 rfl) ?_
  refine lv_iload_n hx hb dX8_moveTop_8 rfl (lv_at hl 4 rfl) ?_
  obtain ⟨r3, hc4, hf⟩ := cq_e hf
  refine r_cVi (n := 1) (As := [.int a2]) (rest := []) C (c_fX8_height fS_12 hj σ H.size a2 hc4) (oS fS_12) rfl gv_RX8_79 (by decide +kernel) (rmD_le (by decide) (by decide)) rfl rfl (Nat.le_of_ble_eq_true rfl) dX8_moveTop_9 hP hS hl.1 (fun H locs hP hS => ?_)
  refine lv_istore (lv' := [(5, .int r3), (4, .int r1), (0, .ref (ea E 5)), (1, .int a0), (2, .ref (ea E 12)), (3, .int a2)]) hx hb dX8_moveTop_12 hl (by decide) rfl (fun ls hl => ?_)
  refine lv_iload hx hb dX8_moveTop_14 (lv_at hl 1 rfl) ?_
  refine lv_if_eq (tgt := 39) hx hb dX8_moveTop_16 (by decide) (fun c5 => ?_) (fun c5 => ?_)
  · replace hf := it_t c5 hf
    refine lv_iconst (v := 0) hx hb dX8_moveTop_39 (by decide) ?_
    cases hf
    exact r_zret C rfl hP hS dX8_moveTop_40
  · replace hf := it_f c5 hf
    refine lv_iload_n hx hb dX8_moveTop_19 rfl (lv_at hl 5 rfl) ?_
    refine lv_aload_n hx hb dX8_moveTop_20 rfl (lv_at hl 4 rfl) ?_
    refine r_get (k := 0) (v := .int (σ 12 0)) C hP (oS fS_12) rfl iX8 (by decide) wm_t52 rfl rfl dX8_moveTop_21 ?_
    refine r_cNi (n := 2) (As := [.int a2, .int (σ 12 0)]) (rest := []) (host := "SoupCargo") C (c_fX10_within hj σ H.size a2 (σ 12 0)) (by decide +kernel) wm_t343 wm_t1 wm_t342 (by decide +kernel) (rmD_le (by decide) (by decide)) rfl rfl (Nat.le_of_ble_eq_true rfl) dX8_moveTop_24 hP hS hl.1 (fun H locs hP hS => ?_)
    refine lv_if_eq (tgt := 39) hx hb dX8_moveTop_27 (by decide) (fun c6 => ?_) (fun c6 => ?_)
    · replace hf := it_t c6 hf
      refine lv_iconst (v := 0) hx hb dX8_moveTop_39 (by decide) ?_
      cases hf
      exact r_zret C rfl hP hS dX8_moveTop_40
    · replace hf := it_f c6 hf
      refine lv_iload hx hb dX8_moveTop_30 (lv_at hl 0 rfl) ?_
      refine lv_aload_n hx hb dX8_moveTop_32 rfl (lv_at hl 4 rfl) ?_
      refine r_get (k := 1) (v := .int (σ 12 1)) C hP (oS fS_12) rfl iX8 (by decide) wm_t53 rfl rfl dX8_moveTop_33 ?_
      refine lv_icmp_lt (tgt := 41) hx hb dX8_moveTop_36 (by decide) (fun c7 => ?_) (fun c7 => ?_)
      · replace hf := it_t c7 hf
        refine lv_iload_n hx hb dX8_moveTop_41 rfl (lv_at hl 3 rfl) ?_
        refine lv_aload_n hx hb dX8_moveTop_42 rfl (lv_at hl 2 rfl) ?_
        refine r_get (k := 1) (v := .int (σ 5 1)) C hP (oS fS_5) rfl iX8 (by decide) wm_t53 rfl rfl dX8_moveTop_43 ?_
        refine lv_imul hx hb dX8_moveTop_46 ?_
        refine lv_iload hx hb dX8_moveTop_47 (lv_at hl 1 rfl) ?_
        refine lv_iadd hx hb dX8_moveTop_49 ?_
        refine lv_iconst (v := 1) hx hb dX8_moveTop_50 (by decide) ?_
        refine lv_isub hx hb dX8_moveTop_51 ?_
        refine lv_istore (lv' := [(6, .int (((a0 * (σ 5 1)) + r1) - 1)), (5, .int r3), (4, .int r1), (0, .ref (ea E 5)), (1, .int a0), (2, .ref (ea E 12)), (3, .int a2)]) hx hb dX8_moveTop_52 hl (by decide) rfl (fun ls hl => ?_)
        refine lv_iload_n hx hb dX8_moveTop_54 rfl (lv_at hl 6 rfl) ?_
        refine lv_aload_n hx hb dX8_moveTop_55 rfl (lv_at hl 5 rfl) ?_
        refine r_get (k := 1) (v := .int (σ 12 1)) C hP (oS fS_12) rfl iX8 (by decide) wm_t53 rfl rfl dX8_moveTop_56 ?_
        refine lv_imul hx hb dX8_moveTop_59 ?_
        refine lv_iload hx hb dX8_moveTop_60 (lv_at hl 1 rfl) ?_
        refine lv_iadd hx hb dX8_moveTop_62 ?_
        refine lv_istore (lv' := [(7, .int ((a2 * (σ 12 1)) + r3)), (6, .int (((a0 * (σ 5 1)) + r1) - 1)), (5, .int r3), (4, .int r1), (0, .ref (ea E 5)), (1, .int a0), (2, .ref (ea E 12)), (3, .int a2)]) hx hb dX8_moveTop_63 hl (by decide) rfl (fun ls hl => ?_)
        refine lv_aload_n hx hb dX8_moveTop_65 rfl (lv_at hl 6 rfl) ?_
        refine r_get (k := 3) (v := .ref (ea E (12 + 1))) C hP (oS fS_12) rfl iX8 (by decide) wm_t55 rfl rfl dX8_moveTop_66 ?_
        refine lv_iload hx hb dX8_moveTop_69 (lv_at hl 0 rfl) ?_
        refine lv_aload_n hx hb dX8_moveTop_71 rfl (lv_at hl 4 rfl) ?_
        refine r_get (k := 3) (v := .ref (ea E (5 + 1))) C hP (oS fS_5) rfl iX8 (by decide) wm_t55 rfl rfl dX8_moveTop_72 ?_
        refine lv_iload hx hb dX8_moveTop_75 (lv_at hl 1 rfl) ?_
        have h9 := (rdK_e hf).1
        refine r_ald C hP (aS_1 fS_5) h9 dX8_moveTop_77 ?_
        refine lv_topi (fun v8 ev8 => ?_)
        replace hf := rdK_n ev8 hf
        obtain ⟨h11, σ10, eσ10, hf⟩ := wrK_e hf
        refine r_ast C hP hS (aS_1 fS_12) h11 dX8_moveTop_78 (fun H locs hP hS => ?_)
        rw [← eσ10] at hP
        refine lv_aload_n hx hb dX8_moveTop_79 rfl (lv_at hl 6 rfl) ?_
        refine r_get (k := 4) (v := .ref (ea E (12 + 2))) C hP (oS fS_12) rfl iX8 (by decide) wm_t60 rfl rfl dX8_moveTop_80 ?_
        refine lv_iload hx hb dX8_moveTop_83 (lv_at hl 0 rfl) ?_
        refine lv_aload_n hx hb dX8_moveTop_85 rfl (lv_at hl 4 rfl) ?_
        refine r_get (k := 4) (v := .ref (ea E (5 + 2))) C hP (oS fS_5) rfl iX8 (by decide) wm_t60 rfl rfl dX8_moveTop_86 ?_
        refine lv_iload hx hb dX8_moveTop_89 (lv_at hl 1 rfl) ?_
        have h13 := (rdK_e hf).1
        refine r_ald C hP (aS_2 fS_5) h13 dX8_moveTop_91 ?_
        refine lv_topi (fun v12 ev12 => ?_)
        replace hf := rdK_n ev12 hf
        obtain ⟨h15, σ14, eσ14, hf⟩ := wrK_e hf
        refine r_ast C hP hS (aS_2 fS_12) h15 dX8_moveTop_92 (fun H locs hP hS => ?_)
        rw [← eσ14] at hP
        refine lv_aload_n hx hb dX8_moveTop_93 rfl (lv_at hl 6 rfl) ?_
        refine r_get (k := 5) (v := .ref (ea E (12 + 3))) C hP (oS fS_12) rfl iX8 (by decide) wm_t63 rfl rfl dX8_moveTop_94 ?_
        refine lv_iload hx hb dX8_moveTop_97 (lv_at hl 0 rfl) ?_
        refine lv_aload_n hx hb dX8_moveTop_99 rfl (lv_at hl 4 rfl) ?_
        refine r_get (k := 5) (v := .ref (ea E (5 + 3))) C hP (oS fS_5) rfl iX8 (by decide) wm_t63 rfl rfl dX8_moveTop_100 ?_
        refine lv_iload hx hb dX8_moveTop_103 (lv_at hl 1 rfl) ?_
        have h17 := (rdK_e hf).1
        refine r_ald C hP (aS_3 fS_5) h17 dX8_moveTop_105 ?_
        refine lv_topi (fun v16 ev16 => ?_)
        replace hf := rdK_n ev16 hf
        obtain ⟨h19, σ18, eσ18, hf⟩ := wrK_e hf
        refine r_ast C hP hS (aS_3 fS_12) h19 dX8_moveTop_106 (fun H locs hP hS => ?_)
        rw [← eσ18] at hP
        refine lv_aload_n hx hb dX8_moveTop_107 rfl (lv_at hl 6 rfl) ?_
        refine r_get (k := 6) (v := .ref (ea E (12 + 4))) C hP (oS fS_12) rfl iX8 (by decide) wm_t65 rfl rfl dX8_moveTop_108 ?_
        refine lv_iload hx hb dX8_moveTop_111 (lv_at hl 0 rfl) ?_
        refine lv_aload_n hx hb dX8_moveTop_113 rfl (lv_at hl 4 rfl) ?_
        refine r_get (k := 6) (v := .ref (ea E (5 + 4))) C hP (oS fS_5) rfl iX8 (by decide) wm_t65 rfl rfl dX8_moveTop_114 ?_
        refine lv_iload hx hb dX8_moveTop_117 (lv_at hl 1 rfl) ?_
        have h21 := (rdK_e hf).1
        refine r_ald C hP (aS_4 fS_5) h21 dX8_moveTop_119 ?_
        refine lv_topi (fun v20 ev20 => ?_)
        replace hf := rdK_n ev20 hf
        obtain ⟨h23, σ22, eσ22, hf⟩ := wrK_e hf
        refine r_ast C hP hS (aS_4 fS_12) h23 dX8_moveTop_120 (fun H locs hP hS => ?_)
        rw [← eσ22] at hP
        refine lv_aload_n hx hb dX8_moveTop_121 rfl (lv_at hl 4 rfl) ?_
        refine r_get (k := 3) (v := .ref (ea E (5 + 1))) C hP (oS fS_5) rfl iX8 (by decide) wm_t55 rfl rfl dX8_moveTop_122 ?_
        refine lv_iload hx hb dX8_moveTop_125 (lv_at hl 1 rfl) ?_
        refine lv_iconst (v := 0) hx hb dX8_moveTop_127 (by decide) ?_
        obtain ⟨h25, σ24, eσ24, hf⟩ := wrK_e hf
        refine r_ast C hP hS (aS_1 fS_5) h25 dX8_moveTop_128 (fun H locs hP hS => ?_)
        rw [← eσ24] at hP
        refine lv_aload_n hx hb dX8_moveTop_129 rfl (lv_at hl 4 rfl) ?_
        refine r_get (k := 4) (v := .ref (ea E (5 + 2))) C hP (oS fS_5) rfl iX8 (by decide) wm_t60 rfl rfl dX8_moveTop_130 ?_
        refine lv_iload hx hb dX8_moveTop_133 (lv_at hl 1 rfl) ?_
        refine lv_iconst (v := 0) hx hb dX8_moveTop_135 (by decide) ?_
        obtain ⟨h27, σ26, eσ26, hf⟩ := wrK_e hf
        refine r_ast C hP hS (aS_2 fS_5) h27 dX8_moveTop_136 (fun H locs hP hS => ?_)
        rw [← eσ26] at hP
        refine lv_aload_n hx hb dX8_moveTop_137 rfl (lv_at hl 4 rfl) ?_
        refine r_get (k := 5) (v := .ref (ea E (5 + 3))) C hP (oS fS_5) rfl iX8 (by decide) wm_t63 rfl rfl dX8_moveTop_138 ?_
        refine lv_iload hx hb dX8_moveTop_141 (lv_at hl 1 rfl) ?_
        refine lv_iconst (v := 0) hx hb dX8_moveTop_143 (by decide) ?_
        obtain ⟨h29, σ28, eσ28, hf⟩ := wrK_e hf
        refine r_ast C hP hS (aS_3 fS_5) h29 dX8_moveTop_144 (fun H locs hP hS => ?_)
        rw [← eσ28] at hP
        refine lv_aload_n hx hb dX8_moveTop_145 rfl (lv_at hl 4 rfl) ?_
        refine r_get (k := 6) (v := .ref (ea E (5 + 4))) C hP (oS fS_5) rfl iX8 (by decide) wm_t65 rfl rfl dX8_moveTop_146 ?_
        refine lv_iload hx hb dX8_moveTop_149 (lv_at hl 1 rfl) ?_
        refine lv_iconst (v := 0) hx hb dX8_moveTop_151 (by decide) ?_
        obtain ⟨h31, σ30, eσ30, hf⟩ := wrK_e hf
        refine r_ast C hP hS (aS_4 fS_5) h31 dX8_moveTop_152 (fun H locs hP hS => ?_)
        rw [← eσ30] at hP
        refine lv_iconst (v := 1) hx hb dX8_moveTop_153 (by decide) ?_
        cases hf
        exact r_zret C rfl hP hS dX8_moveTop_154
      · replace hf := it_f c7 hf
        refine lv_iconst (v := 0) hx hb dX8_moveTop_39 (by decide) ?_
        cases hf
        exact r_zret C rfl hP hS dX8_moveTop_40
def fX8_moveTopF (b : Nat) (σ : St) (a0 : Int32) (a2 : Int32) : Option (Int32 × St) :=
(cq (fX8_height b σ a0) fun r1 =>
(cq (fX8_height b σ a2) fun r3 =>
(if r1 = 0 then
some (0, σ)
else
(if (fX10_within a2 (σ b 0)) = 0 then
some (0, σ)
else
(if r3 < (σ b 1) then
(rdK (stN b) (σ (b + 1)) (((a0 * (σ b 1)) + r1) - 1) fun v8 =>
(wrK (stN b) σ (b + 1) ((a2 * (σ b 1)) + r3) v8 fun σ10 =>
(rdK (stN b) (σ10 (b + 2)) (((a0 * (σ b 1)) + r1) - 1) fun v12 =>
(wrK (stN b) σ10 (b + 2) ((a2 * (σ b 1)) + r3) v12 fun σ14 =>
(rdK (stN b) (σ14 (b + 3)) (((a0 * (σ b 1)) + r1) - 1) fun v16 =>
(wrK (stN b) σ14 (b + 3) ((a2 * (σ b 1)) + r3) v16 fun σ18 =>
(rdK (stN b) (σ18 (b + 4)) (((a0 * (σ b 1)) + r1) - 1) fun v20 =>
(wrK (stN b) σ18 (b + 4) ((a2 * (σ b 1)) + r3) v20 fun σ22 =>
(wrK (stN b) σ22 (b + 1) (((a0 * (σ b 1)) + r1) - 1) 0 fun σ24 =>
(wrK (stN b) σ24 (b + 2) (((a0 * (σ b 1)) + r1) - 1) 0 fun σ26 =>
(wrK (stN b) σ26 (b + 3) (((a0 * (σ b 1)) + r1) - 1) 0 fun σ28 =>
(wrK (stN b) σ28 (b + 4) (((a0 * (σ b 1)) + r1) - 1) 0 fun σ30 =>
some (1, σ30)))))))))))))
else
some (0, σ))))))
set_option maxHeartbeats 4000000 in
theorem c_fX8_moveTopF {E : Ev} {l : Launch} {b : Nat} (hfb : fS b) (hj : jW true E) (σ : St) (sz : Nat) (a0 : Int32) (a2 : Int32) {rr : Int32} {sr : St} (hf : fX8_moveTopF b σ a0 a2 = some (rr, sr)) : Met l yX8_moveTop (Cond.code yX8_moveTop cX8_moveTop 8 (some .boolean) :: gT) (rmD 3) (va_Pc [.ref (ea E b), .int a0, .ref (ea E b), .int a2] (preW true E σ sz)) (QI true E rr sr sz) 0 0 (aW true E sz) := by
  refine r_entry (QI true E rr sr) hj (by decide) [.ref (ea E b), .int a0, .ref (ea E b), .int a2] (Nat.le_of_ble_eq_true rfl) (fun p e s m args below meth c C => ?_)
  intro H locs ls hP hS hl
  have hl : lv_has ls 8 [(0, .ref (ea E b)), (1, .int a0), (2, .ref (ea E b)), (3, .int a2)] := hl
  obtain ⟨hx, hb, hr, hml, hown, hts, hlocks, hK, hX, hj⟩ := id C
  unfold fX8_moveTopF at hf
  refine lv_aload_n hx hb dX8_moveTop_0 rfl (lv_at hl 0 rfl) ?_
  refine lv_iload_n hx hb dX8_moveTop_1 rfl (lv_at hl 1 rfl) ?_
  obtain ⟨r1, hc2, hf⟩ := cq_e hf
  refine r_cVi (n := 1) (As := [.int a0]) (rest := []) C (c_fX8_height hfb hj σ H.size a0 hc2) (oS hfb) rfl gv_RX8_79 (by decide +kernel) (rmD_le (by decide) (by decide)) rfl rfl (Nat.le_of_ble_eq_true rfl) dX8_moveTop_2 hP hS hl.1 (fun H locs hP hS => ?_)
  refine lv_istore (lv' := [(4, .int r1), (0, .ref (ea E b)), (1, .int a0), (2, .ref (ea E b)), (3, .int a2)]) hx hb dX8_moveTop_5 hl (by decide) rfl (fun ls hl => ?_)
  refine lv_aload_n hx hb dX8_moveTop_7 rfl (lv_at hl 3 rfl) ?_
  refine lv_iload_n hx hb dX8_moveTop_8 rfl (lv_at hl 4 rfl) ?_
  obtain ⟨r3, hc4, hf⟩ := cq_e hf
  refine r_cVi (n := 1) (As := [.int a2]) (rest := []) C (c_fX8_height hfb hj σ H.size a2 hc4) (oS hfb) rfl gv_RX8_79 (by decide +kernel) (rmD_le (by decide) (by decide)) rfl rfl (Nat.le_of_ble_eq_true rfl) dX8_moveTop_9 hP hS hl.1 (fun H locs hP hS => ?_)
  refine lv_istore (lv' := [(5, .int r3), (4, .int r1), (0, .ref (ea E b)), (1, .int a0), (2, .ref (ea E b)), (3, .int a2)]) hx hb dX8_moveTop_12 hl (by decide) rfl (fun ls hl => ?_)
  refine lv_iload hx hb dX8_moveTop_14 (lv_at hl 1 rfl) ?_
  refine lv_if_eq (tgt := 39) hx hb dX8_moveTop_16 (by decide) (fun c5 => ?_) (fun c5 => ?_)
  · replace hf := it_t c5 hf
    refine lv_iconst (v := 0) hx hb dX8_moveTop_39 (by decide) ?_
    cases hf
    exact r_zret C rfl hP hS dX8_moveTop_40
  · replace hf := it_f c5 hf
    refine lv_iload_n hx hb dX8_moveTop_19 rfl (lv_at hl 5 rfl) ?_
    refine lv_aload_n hx hb dX8_moveTop_20 rfl (lv_at hl 4 rfl) ?_
    refine r_get (k := 0) (v := .int (σ b 0)) C hP (oS hfb) rfl iX8 (by decide) wm_t52 rfl rfl dX8_moveTop_21 ?_
    refine r_cNi (n := 2) (As := [.int a2, .int (σ b 0)]) (rest := []) (host := "SoupCargo") C (c_fX10_within hj σ H.size a2 (σ b 0)) (by decide +kernel) wm_t343 wm_t1 wm_t342 (by decide +kernel) (rmD_le (by decide) (by decide)) rfl rfl (Nat.le_of_ble_eq_true rfl) dX8_moveTop_24 hP hS hl.1 (fun H locs hP hS => ?_)
    refine lv_if_eq (tgt := 39) hx hb dX8_moveTop_27 (by decide) (fun c6 => ?_) (fun c6 => ?_)
    · replace hf := it_t c6 hf
      refine lv_iconst (v := 0) hx hb dX8_moveTop_39 (by decide) ?_
      cases hf
      exact r_zret C rfl hP hS dX8_moveTop_40
    · replace hf := it_f c6 hf
      refine lv_iload hx hb dX8_moveTop_30 (lv_at hl 0 rfl) ?_
      refine lv_aload_n hx hb dX8_moveTop_32 rfl (lv_at hl 4 rfl) ?_
      refine r_get (k := 1) (v := .int (σ b 1)) C hP (oS hfb) rfl iX8 (by decide) wm_t53 rfl rfl dX8_moveTop_33 ?_
      refine lv_icmp_lt (tgt := 41) hx hb dX8_moveTop_36 (by decide) (fun c7 => ?_) (fun c7 => ?_)
      · replace hf := it_t c7 hf
        refine lv_iload_n hx hb dX8_moveTop_41 rfl (lv_at hl 3 rfl) ?_
        refine lv_aload_n hx hb dX8_moveTop_42 rfl (lv_at hl 2 rfl) ?_
        refine r_get (k := 1) (v := .int (σ b 1)) C hP (oS hfb) rfl iX8 (by decide) wm_t53 rfl rfl dX8_moveTop_43 ?_
        refine lv_imul hx hb dX8_moveTop_46 ?_
        refine lv_iload hx hb dX8_moveTop_47 (lv_at hl 1 rfl) ?_
        refine lv_iadd hx hb dX8_moveTop_49 ?_
        refine lv_iconst (v := 1) hx hb dX8_moveTop_50 (by decide) ?_
        refine lv_isub hx hb dX8_moveTop_51 ?_
        refine lv_istore (lv' := [(6, .int (((a0 * (σ b 1)) + r1) - 1)), (5, .int r3), (4, .int r1), (0, .ref (ea E b)), (1, .int a0), (2, .ref (ea E b)), (3, .int a2)]) hx hb dX8_moveTop_52 hl (by decide) rfl (fun ls hl => ?_)
        refine lv_iload_n hx hb dX8_moveTop_54 rfl (lv_at hl 6 rfl) ?_
        refine lv_aload_n hx hb dX8_moveTop_55 rfl (lv_at hl 5 rfl) ?_
        refine r_get (k := 1) (v := .int (σ b 1)) C hP (oS hfb) rfl iX8 (by decide) wm_t53 rfl rfl dX8_moveTop_56 ?_
        refine lv_imul hx hb dX8_moveTop_59 ?_
        refine lv_iload hx hb dX8_moveTop_60 (lv_at hl 1 rfl) ?_
        refine lv_iadd hx hb dX8_moveTop_62 ?_
        refine lv_istore (lv' := [(7, .int ((a2 * (σ b 1)) + r3)), (6, .int (((a0 * (σ b 1)) + r1) - 1)), (5, .int r3), (4, .int r1), (0, .ref (ea E b)), (1, .int a0), (2, .ref (ea E b)), (3, .int a2)]) hx hb dX8_moveTop_63 hl (by decide) rfl (fun ls hl => ?_)
        refine lv_aload_n hx hb dX8_moveTop_65 rfl (lv_at hl 6 rfl) ?_
        refine r_get (k := 3) (v := .ref (ea E (b + 1))) C hP (oS hfb) rfl iX8 (by decide) wm_t55 rfl rfl dX8_moveTop_66 ?_
        refine lv_iload hx hb dX8_moveTop_69 (lv_at hl 0 rfl) ?_
        refine lv_aload_n hx hb dX8_moveTop_71 rfl (lv_at hl 4 rfl) ?_
        refine r_get (k := 3) (v := .ref (ea E (b + 1))) C hP (oS hfb) rfl iX8 (by decide) wm_t55 rfl rfl dX8_moveTop_72 ?_
        refine lv_iload hx hb dX8_moveTop_75 (lv_at hl 1 rfl) ?_
        have h9 := (rdK_e hf).1
        refine r_ald C hP (aS_1 hfb) h9 dX8_moveTop_77 ?_
        refine lv_topi (fun v8 ev8 => ?_)
        replace hf := rdK_n ev8 hf
        obtain ⟨h11, σ10, eσ10, hf⟩ := wrK_e hf
        refine r_ast C hP hS (aS_1 hfb) h11 dX8_moveTop_78 (fun H locs hP hS => ?_)
        rw [← eσ10] at hP
        refine lv_aload_n hx hb dX8_moveTop_79 rfl (lv_at hl 6 rfl) ?_
        refine r_get (k := 4) (v := .ref (ea E (b + 2))) C hP (oS hfb) rfl iX8 (by decide) wm_t60 rfl rfl dX8_moveTop_80 ?_
        refine lv_iload hx hb dX8_moveTop_83 (lv_at hl 0 rfl) ?_
        refine lv_aload_n hx hb dX8_moveTop_85 rfl (lv_at hl 4 rfl) ?_
        refine r_get (k := 4) (v := .ref (ea E (b + 2))) C hP (oS hfb) rfl iX8 (by decide) wm_t60 rfl rfl dX8_moveTop_86 ?_
        refine lv_iload hx hb dX8_moveTop_89 (lv_at hl 1 rfl) ?_
        have h13 := (rdK_e hf).1
        refine r_ald C hP (aS_2 hfb) h13 dX8_moveTop_91 ?_
        refine lv_topi (fun v12 ev12 => ?_)
        replace hf := rdK_n ev12 hf
        obtain ⟨h15, σ14, eσ14, hf⟩ := wrK_e hf
        refine r_ast C hP hS (aS_2 hfb) h15 dX8_moveTop_92 (fun H locs hP hS => ?_)
        rw [← eσ14] at hP
        refine lv_aload_n hx hb dX8_moveTop_93 rfl (lv_at hl 6 rfl) ?_
        refine r_get (k := 5) (v := .ref (ea E (b + 3))) C hP (oS hfb) rfl iX8 (by decide) wm_t63 rfl rfl dX8_moveTop_94 ?_
        refine lv_iload hx hb dX8_moveTop_97 (lv_at hl 0 rfl) ?_
        refine lv_aload_n hx hb dX8_moveTop_99 rfl (lv_at hl 4 rfl) ?_
        refine r_get (k := 5) (v := .ref (ea E (b + 3))) C hP (oS hfb) rfl iX8 (by decide) wm_t63 rfl rfl dX8_moveTop_100 ?_
        refine lv_iload hx hb dX8_moveTop_103 (lv_at hl 1 rfl) ?_
        have h17 := (rdK_e hf).1
        refine r_ald C hP (aS_3 hfb) h17 dX8_moveTop_105 ?_
        refine lv_topi (fun v16 ev16 => ?_)
        replace hf := rdK_n ev16 hf
        obtain ⟨h19, σ18, eσ18, hf⟩ := wrK_e hf
        refine r_ast C hP hS (aS_3 hfb) h19 dX8_moveTop_106 (fun H locs hP hS => ?_)
        rw [← eσ18] at hP
        refine lv_aload_n hx hb dX8_moveTop_107 rfl (lv_at hl 6 rfl) ?_
        refine r_get (k := 6) (v := .ref (ea E (b + 4))) C hP (oS hfb) rfl iX8 (by decide) wm_t65 rfl rfl dX8_moveTop_108 ?_
        refine lv_iload hx hb dX8_moveTop_111 (lv_at hl 0 rfl) ?_
        refine lv_aload_n hx hb dX8_moveTop_113 rfl (lv_at hl 4 rfl) ?_
        refine r_get (k := 6) (v := .ref (ea E (b + 4))) C hP (oS hfb) rfl iX8 (by decide) wm_t65 rfl rfl dX8_moveTop_114 ?_
        refine lv_iload hx hb dX8_moveTop_117 (lv_at hl 1 rfl) ?_
        have h21 := (rdK_e hf).1
        refine r_ald C hP (aS_4 hfb) h21 dX8_moveTop_119 ?_
        refine lv_topi (fun v20 ev20 => ?_)
        replace hf := rdK_n ev20 hf
        obtain ⟨h23, σ22, eσ22, hf⟩ := wrK_e hf
        refine r_ast C hP hS (aS_4 hfb) h23 dX8_moveTop_120 (fun H locs hP hS => ?_)
        rw [← eσ22] at hP
        refine lv_aload_n hx hb dX8_moveTop_121 rfl (lv_at hl 4 rfl) ?_
        refine r_get (k := 3) (v := .ref (ea E (b + 1))) C hP (oS hfb) rfl iX8 (by decide) wm_t55 rfl rfl dX8_moveTop_122 ?_
        refine lv_iload hx hb dX8_moveTop_125 (lv_at hl 1 rfl) ?_
        refine lv_iconst (v := 0) hx hb dX8_moveTop_127 (by decide) ?_
        obtain ⟨h25, σ24, eσ24, hf⟩ := wrK_e hf
        refine r_ast C hP hS (aS_1 hfb) h25 dX8_moveTop_128 (fun H locs hP hS => ?_)
        rw [← eσ24] at hP
        refine lv_aload_n hx hb dX8_moveTop_129 rfl (lv_at hl 4 rfl) ?_
        refine r_get (k := 4) (v := .ref (ea E (b + 2))) C hP (oS hfb) rfl iX8 (by decide) wm_t60 rfl rfl dX8_moveTop_130 ?_
        refine lv_iload hx hb dX8_moveTop_133 (lv_at hl 1 rfl) ?_
        refine lv_iconst (v := 0) hx hb dX8_moveTop_135 (by decide) ?_
        obtain ⟨h27, σ26, eσ26, hf⟩ := wrK_e hf
        refine r_ast C hP hS (aS_2 hfb) h27 dX8_moveTop_136 (fun H locs hP hS => ?_)
        rw [← eσ26] at hP
        refine lv_aload_n hx hb dX8_moveTop_137 rfl (lv_at hl 4 rfl) ?_
        refine r_get (k := 5) (v := .ref (ea E (b + 3))) C hP (oS hfb) rfl iX8 (by decide) wm_t63 rfl rfl dX8_moveTop_138 ?_
        refine lv_iload hx hb dX8_moveTop_141 (lv_at hl 1 rfl) ?_
        refine lv_iconst (v := 0) hx hb dX8_moveTop_143 (by decide) ?_
        obtain ⟨h29, σ28, eσ28, hf⟩ := wrK_e hf
        refine r_ast C hP hS (aS_3 hfb) h29 dX8_moveTop_144 (fun H locs hP hS => ?_)
        rw [← eσ28] at hP
        refine lv_aload_n hx hb dX8_moveTop_145 rfl (lv_at hl 4 rfl) ?_
        refine r_get (k := 6) (v := .ref (ea E (b + 4))) C hP (oS hfb) rfl iX8 (by decide) wm_t65 rfl rfl dX8_moveTop_146 ?_
        refine lv_iload hx hb dX8_moveTop_149 (lv_at hl 1 rfl) ?_
        refine lv_iconst (v := 0) hx hb dX8_moveTop_151 (by decide) ?_
        obtain ⟨h31, σ30, eσ30, hf⟩ := wrK_e hf
        refine r_ast C hP hS (aS_4 hfb) h31 dX8_moveTop_152 (fun H locs hP hS => ?_)
        rw [← eσ30] at hP
        refine lv_iconst (v := 1) hx hb dX8_moveTop_153 (by decide) ?_
        cases hf
        exact r_zret C rfl hP hS dX8_moveTop_154
      · replace hf := it_f c7 hf
        refine lv_iconst (v := 0) hx hb dX8_moveTop_39 (by decide) ?_
        cases hf
        exact r_zret C rfl hP hS dX8_moveTop_40
def fX9_isOf (b : Nat) (σ : St) (a0 : Int32) (a1 : Int32) : Option Int32 :=
(if (fX10_within a0 (σ b 0)) = 0 then
some 0
else
(rdK 16 (σ (b + 2)) a0 fun v2 =>
(if v2 = a1 then
some 1
else
some 0)))
set_option maxHeartbeats 4000000 in
theorem c_fX9_isOf {E : Ev} {l : Launch} {b : Nat} (hfb : fW b) (hj : jW true E) (σ : St) (sz : Nat) (a0 : Int32) (a1 : Int32) {rr : Int32} (hf : fX9_isOf b σ a0 a1 = some rr) : Met l yX9_isOf (Cond.code yX9_isOf cX9_isOf 3 (some .boolean) :: gT) (rmD 2) (va_Pc [.ref (ea E b), .int a0, .int a1] (preW true E σ sz)) (QI true E rr σ sz) 0 0 (aW true E sz) := by
  refine r_entry (QI true E rr σ) hj (by decide) [.ref (ea E b), .int a0, .int a1] (Nat.le_of_ble_eq_true rfl) (fun p e s m args below meth c C => ?_)
  intro H locs ls hP hS hl
  have hl : lv_has ls 3 [(0, .ref (ea E b)), (1, .int a0), (2, .int a1)] := hl
  obtain ⟨hx, hb, hr, hml, hown, hts, hlocks, hK, hX, hj⟩ := id C
  unfold fX9_isOf at hf
  refine lv_iload_n hx hb dX9_isOf_0 rfl (lv_at hl 1 rfl) ?_
  refine lv_aload_n hx hb dX9_isOf_1 rfl (lv_at hl 0 rfl) ?_
  refine r_get (k := 0) (v := .int (σ b 0)) C hP (oW hfb) rfl iX9 (by decide) wm_t133 rfl rfl dX9_isOf_2 ?_
  refine r_cNi (n := 2) (As := [.int a0, .int (σ b 0)]) (rest := []) (host := "SoupCargo") C (c_fX10_within hj σ H.size a0 (σ b 0)) (by decide +kernel) wm_t343 wm_t1 wm_t342 (by decide +kernel) (rmD_le (by decide) (by decide)) rfl rfl (Nat.le_of_ble_eq_true rfl) dX9_isOf_5 hP hS hl.1 (fun H locs hP hS => ?_)
  refine lv_if_eq (tgt := 25) hx hb dX9_isOf_8 (by decide) (fun c1 => ?_) (fun c1 => ?_)
  · replace hf := it_t c1 hf
    refine lv_iconst (v := 0) hx hb dX9_isOf_25 (by decide) ?_
    cases hf
    exact r_zret C rfl hP hS dX9_isOf_26
  · replace hf := it_f c1 hf
    refine lv_aload_n hx hb dX9_isOf_11 rfl (lv_at hl 0 rfl) ?_
    refine r_get (k := 3) (v := .ref (ea E (b + 2))) C hP (oW hfb) rfl iX9 (by decide) wm_t140 rfl rfl dX9_isOf_12 ?_
    refine lv_iload_n hx hb dX9_isOf_15 rfl (lv_at hl 1 rfl) ?_
    have h3 := (rdK_e hf).1
    refine r_ald C hP (aW_2 hfb) h3 dX9_isOf_16 ?_
    refine lv_topi (fun v2 ev2 => ?_)
    replace hf := rdK_n ev2 hf
    refine lv_iload_n hx hb dX9_isOf_17 rfl (lv_at hl 2 rfl) ?_
    refine lv_icmp_ne (tgt := 25) hx hb dX9_isOf_18 (by decide) (fun c4 => ?_) (fun c4 => ?_)
    · replace hf := it_f c4 hf
      refine lv_iconst (v := 0) hx hb dX9_isOf_25 (by decide) ?_
      cases hf
      exact r_zret C rfl hP hS dX9_isOf_26
    · replace hf := it_t c4 hf
      refine lv_iconst (v := 1) hx hb dX9_isOf_21 (by decide) ?_
      refine lv_goto (tgt := 26) hx hb dX9_isOf_22 (by decide) ?_
      cases hf
      exact r_zret C rfl hP hS dX9_isOf_26
def fX9_isFor (b : Nat) (σ : St) (a0 : Int32) (a1 : Int32) : Option Int32 :=
(if (fX10_within a0 (σ b 0)) = 0 then
some 0
else
(if a1 = (-1) then
some 1
else
(rdK 16 (σ (b + 3)) a0 fun v3 =>
(if v3 = a1 then
some 1
else
some 0))))
set_option maxHeartbeats 4000000 in
theorem c_fX9_isFor {E : Ev} {l : Launch} {b : Nat} (hfb : fW b) (hj : jW true E) (σ : St) (sz : Nat) (a0 : Int32) (a1 : Int32) {rr : Int32} (hf : fX9_isFor b σ a0 a1 = some rr) : Met l yX9_isFor (Cond.code yX9_isFor cX9_isFor 3 (some .boolean) :: gT) (rmD 2) (va_Pc [.ref (ea E b), .int a0, .int a1] (preW true E σ sz)) (QI true E rr σ sz) 0 0 (aW true E sz) := by
  refine r_entry (QI true E rr σ) hj (by decide) [.ref (ea E b), .int a0, .int a1] (Nat.le_of_ble_eq_true rfl) (fun p e s m args below meth c C => ?_)
  intro H locs ls hP hS hl
  have hl : lv_has ls 3 [(0, .ref (ea E b)), (1, .int a0), (2, .int a1)] := hl
  obtain ⟨hx, hb, hr, hml, hown, hts, hlocks, hK, hX, hj⟩ := id C
  unfold fX9_isFor at hf
  refine lv_iload_n hx hb dX9_isFor_0 rfl (lv_at hl 1 rfl) ?_
  refine lv_aload_n hx hb dX9_isFor_1 rfl (lv_at hl 0 rfl) ?_
  refine r_get (k := 0) (v := .int (σ b 0)) C hP (oW hfb) rfl iX9 (by decide) wm_t133 rfl rfl dX9_isFor_2 ?_
  refine r_cNi (n := 2) (As := [.int a0, .int (σ b 0)]) (rest := []) (host := "SoupCargo") C (c_fX10_within hj σ H.size a0 (σ b 0)) (by decide +kernel) wm_t343 wm_t1 wm_t342 (by decide +kernel) (rmD_le (by decide) (by decide)) rfl rfl (Nat.le_of_ble_eq_true rfl) dX9_isFor_5 hP hS hl.1 (fun H locs hP hS => ?_)
  refine lv_if_eq (tgt := 30) hx hb dX9_isFor_8 (by decide) (fun c1 => ?_) (fun c1 => ?_)
  · replace hf := it_t c1 hf
    refine lv_iconst (v := 0) hx hb dX9_isFor_30 (by decide) ?_
    cases hf
    exact r_zret C rfl hP hS dX9_isFor_31
  · replace hf := it_f c1 hf
    refine lv_iload_n hx hb dX9_isFor_11 rfl (lv_at hl 2 rfl) ?_
    refine lv_iconst (v := (-1)) hx hb dX9_isFor_12 (by decide) ?_
    refine lv_icmp_eq (tgt := 26) hx hb dX9_isFor_13 (by decide) (fun c2 => ?_) (fun c2 => ?_)
    · replace hf := it_t c2 hf
      refine lv_iconst (v := 1) hx hb dX9_isFor_26 (by decide) ?_
      refine lv_goto (tgt := 31) hx hb dX9_isFor_27 (by decide) ?_
      cases hf
      exact r_zret C rfl hP hS dX9_isFor_31
    · replace hf := it_f c2 hf
      refine lv_aload_n hx hb dX9_isFor_16 rfl (lv_at hl 0 rfl) ?_
      refine r_get (k := 4) (v := .ref (ea E (b + 3))) C hP (oW hfb) rfl iX9 (by decide) wm_t141 rfl rfl dX9_isFor_17 ?_
      refine lv_iload_n hx hb dX9_isFor_20 rfl (lv_at hl 1 rfl) ?_
      have h4 := (rdK_e hf).1
      refine r_ald C hP (aW_3 hfb) h4 dX9_isFor_21 ?_
      refine lv_topi (fun v3 ev3 => ?_)
      replace hf := rdK_n ev3 hf
      refine lv_iload_n hx hb dX9_isFor_22 rfl (lv_at hl 2 rfl) ?_
      refine lv_icmp_ne (tgt := 30) hx hb dX9_isFor_23 (by decide) (fun c5 => ?_) (fun c5 => ?_)
      · replace hf := it_f c5 hf
        refine lv_iconst (v := 0) hx hb dX9_isFor_30 (by decide) ?_
        cases hf
        exact r_zret C rfl hP hS dX9_isFor_31
      · replace hf := it_t c5 hf
        refine lv_iconst (v := 1) hx hb dX9_isFor_26 (by decide) ?_
        refine lv_goto (tgt := 31) hx hb dX9_isFor_27 (by decide) ?_
        cases hf
        exact r_zret C rfl hP hS dX9_isFor_31
def fX9_isSo (b : Nat) (v : Nat) (σ : St) (a0 : Int32) : Option (Int32 × St) :=
(if (fX10_within a0 (σ b 0)) = 0 then
some (0, σ)
else
(rdK 16 (σ (b + 4)) a0 fun v2 =>
(rdK 16 (σ (b + 5)) a0 fun v4 =>
(if v2 = v4 then
some (1, σ)
else
(rdK 16 (σ (b + 4)) a0 fun v7 =>
(rdK 16 (σ (b + 5)) a0 fun v9 =>
(cb (fX9_work b v σ v7 v9) fun r11 σ13 =>
(if r11 = 0 then
some (0, σ13)
else
some (1, σ13)))))))))
set_option maxHeartbeats 4000000 in
theorem c_fX9_isSo {E : Ev} {l : Launch} {b : Nat} (hfb : fW b) {v : Nat} (hfv : fA v) (hj : jW true E) (σ : St) (sz : Nat) (a0 : Int32) {rr : Int32} {sr : St} (hf : fX9_isSo b v σ a0 = some (rr, sr)) : Met l yX9_isSo (Cond.code yX9_isSo cX9_isSo 3 (some .boolean) :: gT) (rmD 2) (va_Pc [.ref (ea E b), .int a0, .ref (ea E v)] (preW true E σ sz)) (QI true E rr sr sz) 0 0 (aW true E sz) := by
  refine r_entry (QI true E rr sr) hj (by decide) [.ref (ea E b), .int a0, .ref (ea E v)] (Nat.le_of_ble_eq_true rfl) (fun p e s m args below meth c C => ?_)
  intro H locs ls hP hS hl
  have hl : lv_has ls 3 [(0, .ref (ea E b)), (1, .int a0), (2, .ref (ea E v))] := hl
  obtain ⟨hx, hb, hr, hml, hown, hts, hlocks, hK, hX, hj⟩ := id C
  unfold fX9_isSo at hf
  refine lv_iload_n hx hb dX9_isSo_0 rfl (lv_at hl 1 rfl) ?_
  refine lv_aload_n hx hb dX9_isSo_1 rfl (lv_at hl 0 rfl) ?_
  refine r_get (k := 0) (v := .int (σ b 0)) C hP (oW hfb) rfl iX9 (by decide) wm_t133 rfl rfl dX9_isSo_2 ?_
  refine r_cNi (n := 2) (As := [.int a0, .int (σ b 0)]) (rest := []) (host := "SoupCargo") C (c_fX10_within hj σ H.size a0 (σ b 0)) (by decide +kernel) wm_t343 wm_t1 wm_t342 (by decide +kernel) (rmD_le (by decide) (by decide)) rfl rfl (Nat.le_of_ble_eq_true rfl) dX9_isSo_5 hP hS hl.1 (fun H locs hP hS => ?_)
  refine lv_if_eq (tgt := 50) hx hb dX9_isSo_8 (by decide) (fun c1 => ?_) (fun c1 => ?_)
  · replace hf := it_t c1 hf
    refine lv_iconst (v := 0) hx hb dX9_isSo_50 (by decide) ?_
    cases hf
    exact r_zret C rfl hP hS dX9_isSo_51
  · replace hf := it_f c1 hf
    refine lv_aload_n hx hb dX9_isSo_11 rfl (lv_at hl 0 rfl) ?_
    refine r_get (k := 5) (v := .ref (ea E (b + 4))) C hP (oW hfb) rfl iX9 (by decide) wm_t142 rfl rfl dX9_isSo_12 ?_
    refine lv_iload_n hx hb dX9_isSo_15 rfl (lv_at hl 1 rfl) ?_
    have h3 := (rdK_e hf).1
    refine r_ald C hP (aW_4 hfb) h3 dX9_isSo_16 ?_
    refine lv_topi (fun v2 ev2 => ?_)
    replace hf := rdK_n ev2 hf
    refine lv_aload_n hx hb dX9_isSo_17 rfl (lv_at hl 0 rfl) ?_
    refine r_get (k := 6) (v := .ref (ea E (b + 5))) C hP (oW hfb) rfl iX9 (by decide) wm_t143 rfl rfl dX9_isSo_18 ?_
    refine lv_iload_n hx hb dX9_isSo_21 rfl (lv_at hl 1 rfl) ?_
    have h5 := (rdK_e hf).1
    refine r_ald C hP (aW_5 hfb) h5 dX9_isSo_22 ?_
    refine lv_topi (fun v4 ev4 => ?_)
    replace hf := rdK_n ev4 hf
    refine lv_icmp_eq (tgt := 46) hx hb dX9_isSo_23 (by decide) (fun c6 => ?_) (fun c6 => ?_)
    · replace hf := it_t c6 hf
      refine lv_iconst (v := 1) hx hb dX9_isSo_46 (by decide) ?_
      refine lv_goto (tgt := 51) hx hb dX9_isSo_47 (by decide) ?_
      cases hf
      exact r_zret C rfl hP hS dX9_isSo_51
    · replace hf := it_f c6 hf
      refine lv_aload_n hx hb dX9_isSo_26 rfl (lv_at hl 0 rfl) ?_
      refine lv_aload_n hx hb dX9_isSo_27 rfl (lv_at hl 0 rfl) ?_
      refine r_get (k := 5) (v := .ref (ea E (b + 4))) C hP (oW hfb) rfl iX9 (by decide) wm_t142 rfl rfl dX9_isSo_28 ?_
      refine lv_iload_n hx hb dX9_isSo_31 rfl (lv_at hl 1 rfl) ?_
      have h8 := (rdK_e hf).1
      refine r_ald C hP (aW_4 hfb) h8 dX9_isSo_32 ?_
      refine lv_topi (fun v7 ev7 => ?_)
      replace hf := rdK_n ev7 hf
      refine lv_aload_n hx hb dX9_isSo_33 rfl (lv_at hl 0 rfl) ?_
      refine r_get (k := 6) (v := .ref (ea E (b + 5))) C hP (oW hfb) rfl iX9 (by decide) wm_t143 rfl rfl dX9_isSo_34 ?_
      refine lv_iload_n hx hb dX9_isSo_37 rfl (lv_at hl 1 rfl) ?_
      have h10 := (rdK_e hf).1
      refine r_ald C hP (aW_5 hfb) h10 dX9_isSo_38 ?_
      refine lv_topi (fun v9 ev9 => ?_)
      replace hf := rdK_n ev9 hf
      refine lv_aload_n hx hb dX9_isSo_39 rfl (lv_at hl 2 rfl) ?_
      obtain ⟨r11, σ13, hc12, hf⟩ := cb_e hf
      refine r_cVi (n := 3) (As := [.int v7, .int v9, .ref (ea E v)]) (rest := []) C (c_fX9_work hfb hfv hj σ H.size v7 v9 hc12) (oW hfb) rfl gv_RX9_41 (by decide +kernel) (rmD_le (by decide) (by decide)) rfl rfl (Nat.le_of_ble_eq_true rfl) dX9_isSo_40 hP hS hl.1 (fun H locs hP hS => ?_)
      refine lv_if_eq (tgt := 50) hx hb dX9_isSo_43 (by decide) (fun c14 => ?_) (fun c14 => ?_)
      · replace hf := it_t c14 hf
        refine lv_iconst (v := 0) hx hb dX9_isSo_50 (by decide) ?_
        cases hf
        exact r_zret C rfl hP hS dX9_isSo_51
      · replace hf := it_f c14 hf
        refine lv_iconst (v := 1) hx hb dX9_isSo_46 (by decide) ?_
        refine lv_goto (tgt := 51) hx hb dX9_isSo_47 (by decide) ?_
        cases hf
        exact r_zret C rfl hP hS dX9_isSo_51
def fX9_valueOf_28 (b : Nat) (v : Nat) (σ : St) (x1 : Int32) (y0 : Int32) : Option (Int32 × St) :=
(rdK 16 (σ (b + 4)) x1 fun v1 =>
(cb (fX9_work b v σ y0 v1) fun r3 σ5 =>
some (r3, σ5)))
set_option maxHeartbeats 4000000 in
theorem b_fX9_valueOf_28 {E : Ev} {l : Launch} {p : Program} {e : Env} {s : State} {m : MethodId} {args : Array Value} {below : List Frame} {meth : Method} {c : Code} {b : Nat} (hfb : fW b) {v : Nat} (hfv : fA v) (C : CX true E RX9 cX9_valueOf 3 (some .int) p s m args meth c) {rr : Int32} {sr : St} : ∀ (σ : St) (x1 : Int32) (y0 : Int32), fX9_valueOf_28 b v σ x1 y0 = some (rr, sr) → GW true l (rmD 2) E 3 p e s m args below meth c (MQ below (QI true E rr sr s.heap.size) args s 0 0 (aW true E s.heap.size)) σ 28 [(0, .ref (ea E b)), (1, .int x1), (2, .ref (ea E v))] [.int y0, .ref (ea E b)] := by
  intro σ x1 y0 hf H locs ls hP hS hl
  obtain ⟨hx, hb, hr, hml, hown, hts, hlocks, hK, hX, hj⟩ := id C
  unfold fX9_valueOf_28 at hf
  refine lv_aload_n hx hb dX9_valueOf_28 rfl (lv_at hl 0 rfl) ?_
  refine r_get (k := 5) (v := .ref (ea E (b + 4))) C hP (oW hfb) rfl iX9 (by decide) wm_t142 rfl rfl dX9_valueOf_29 ?_
  refine lv_iload_n hx hb dX9_valueOf_32 rfl (lv_at hl 1 rfl) ?_
  have h2 := (rdK_e hf).1
  refine r_ald C hP (aW_4 hfb) h2 dX9_valueOf_33 ?_
  refine lv_topi (fun v1 ev1 => ?_)
  replace hf := rdK_n ev1 hf
  refine lv_aload_n hx hb dX9_valueOf_34 rfl (lv_at hl 2 rfl) ?_
  obtain ⟨r3, σ5, hc4, hf⟩ := cb_e hf
  refine r_cVi (n := 3) (As := [.int y0, .int v1, .ref (ea E v)]) (rest := []) C (c_fX9_work hfb hfv hj σ H.size y0 v1 hc4) (oW hfb) rfl gv_RX9_41 (by decide +kernel) (rmD_le (by decide) (by decide)) rfl rfl (Nat.le_of_ble_eq_true rfl) dX9_valueOf_35 hP hS hl.1 (fun H locs hP hS => ?_)
  refine lv_goto (tgt := 42) hx hb dX9_valueOf_38 (by decide) ?_
  cases hf
  exact r_iret C hP hS dX9_valueOf_42
def fX9_valueOf (b : Nat) (v : Nat) (σ : St) (a0 : Int32) : Option (Int32 × St) :=
(if (fX10_within a0 (σ b 0)) = 0 then
some (0, σ)
else
(if a0 = 0 then
fX9_valueOf_28 b v σ a0 0
else
(rdK 16 (σ (b + 5)) (a0 - 1) fun v3 =>
fX9_valueOf_28 b v σ a0 v3)))
set_option maxHeartbeats 4000000 in
theorem c_fX9_valueOf {E : Ev} {l : Launch} {b : Nat} (hfb : fW b) {v : Nat} (hfv : fA v) (hj : jW true E) (σ : St) (sz : Nat) (a0 : Int32) {rr : Int32} {sr : St} (hf : fX9_valueOf b v σ a0 = some (rr, sr)) : Met l yX9_valueOf (Cond.code yX9_valueOf cX9_valueOf 3 (some .int) :: gT) (rmD 2) (va_Pc [.ref (ea E b), .int a0, .ref (ea E v)] (preW true E σ sz)) (QI true E rr sr sz) 0 0 (aW true E sz) := by
  refine r_entry (QI true E rr sr) hj (by decide) [.ref (ea E b), .int a0, .ref (ea E v)] (Nat.le_of_ble_eq_true rfl) (fun p e s m args below meth c C => ?_)
  intro H locs ls hP hS hl
  have hl : lv_has ls 3 [(0, .ref (ea E b)), (1, .int a0), (2, .ref (ea E v))] := hl
  obtain ⟨hx, hb, hr, hml, hown, hts, hlocks, hK, hX, hj⟩ := id C
  unfold fX9_valueOf at hf
  refine lv_iload_n hx hb dX9_valueOf_0 rfl (lv_at hl 1 rfl) ?_
  refine lv_aload_n hx hb dX9_valueOf_1 rfl (lv_at hl 0 rfl) ?_
  refine r_get (k := 0) (v := .int (σ b 0)) C hP (oW hfb) rfl iX9 (by decide) wm_t133 rfl rfl dX9_valueOf_2 ?_
  refine r_cNi (n := 2) (As := [.int a0, .int (σ b 0)]) (rest := []) (host := "SoupCargo") C (c_fX10_within hj σ H.size a0 (σ b 0)) (by decide +kernel) wm_t343 wm_t1 wm_t342 (by decide +kernel) (rmD_le (by decide) (by decide)) rfl rfl (Nat.le_of_ble_eq_true rfl) dX9_valueOf_5 hP hS hl.1 (fun H locs hP hS => ?_)
  refine lv_if_eq (tgt := 41) hx hb dX9_valueOf_8 (by decide) (fun c1 => ?_) (fun c1 => ?_)
  · replace hf := it_t c1 hf
    refine lv_iconst (v := 0) hx hb dX9_valueOf_41 (by decide) ?_
    cases hf
    exact r_iret C hP hS dX9_valueOf_42
  · replace hf := it_f c1 hf
    refine lv_aload_n hx hb dX9_valueOf_11 rfl (lv_at hl 0 rfl) ?_
    refine lv_iload_n hx hb dX9_valueOf_12 rfl (lv_at hl 1 rfl) ?_
    refine lv_if_ne (tgt := 20) hx hb dX9_valueOf_13 (by decide) (fun c2 => ?_) (fun c2 => ?_)
    · replace hf := it_f c2 hf
      refine lv_aload_n hx hb dX9_valueOf_20 rfl (lv_at hl 0 rfl) ?_
      refine r_get (k := 6) (v := .ref (ea E (b + 5))) C hP (oW hfb) rfl iX9 (by decide) wm_t143 rfl rfl dX9_valueOf_21 ?_
      refine lv_iload_n hx hb dX9_valueOf_24 rfl (lv_at hl 1 rfl) ?_
      refine lv_iconst (v := 1) hx hb dX9_valueOf_25 (by decide) ?_
      refine lv_isub hx hb dX9_valueOf_26 ?_
      have h4 := (rdK_e hf).1
      refine r_ald C hP (aW_5 hfb) h4 dX9_valueOf_27 ?_
      refine lv_topi (fun v3 ev3 => ?_)
      replace hf := rdK_n ev3 hf
      exact b_fX9_valueOf_28 hfb hfv C σ a0 v3 hf H locs ls hP hS (lv_sub hl [0, 1, 2] rfl)
    · replace hf := it_t c2 hf
      refine lv_iconst (v := 0) hx hb dX9_valueOf_16 (by decide) ?_
      refine lv_goto (tgt := 28) hx hb dX9_valueOf_17 (by decide) ?_
      exact b_fX9_valueOf_28 hfb hfv C σ a0 0 hf H locs ls hP hS (lv_sub hl [0, 1, 2] rfl)
def fX10_sort (σ : St) (a0 : Int32) : Option (Int32 × St) :=
(if (fX10_within a0 3) = 0 then
some (0, σ)
else
(nmS (st_put σ 28 1 a0) fun σ2 =>
some (1, σ2)))
set_option maxHeartbeats 4000000 in
theorem c_fX10_sort {E : Ev} {l : Launch} (hj : jW true E) (σ : St) (sz : Nat) (a0 : Int32) {rr : Int32} {sr : St} (hf : fX10_sort σ a0 = some (rr, sr)) : Met l yX10_sort (Cond.code yX10_sort cX10_sort 2 (some .boolean) :: gT) (rmD 2) (va_Pc [.ref (ea E 0), .int a0] (preW true E σ sz)) (QI true E rr sr sz) 0 0 (aW true E sz) := by
  refine r_entry (QI true E rr sr) hj (by decide) [.ref (ea E 0), .int a0] (Nat.le_of_ble_eq_true rfl) (fun p e s m args below meth c C => ?_)
  intro H locs ls hP hS hl
  have hl : lv_has ls 2 [(0, .ref (ea E 0)), (1, .int a0)] := hl
  obtain ⟨hx, hb, hr, hml, hown, hts, hlocks, hK, hX, hj⟩ := id C
  unfold fX10_sort at hf
  refine lv_iload_n hx hb dX10_sort_0 rfl (lv_at hl 1 rfl) ?_
  refine lv_iconst (v := 3) hx hb dX10_sort_1 (by decide) ?_
  refine r_cSi (n := 2) (As := [.int a0, .int 3]) (rest := []) C (c_fX10_within hj σ H.size a0 3) gs_RX10_85 (by decide +kernel) (rmD_le (by decide) (by decide)) rfl rfl (Nat.le_of_ble_eq_true rfl) dX10_sort_2 hP hS hl.1 (fun H locs hP hS => ?_)
  refine lv_if_ne (tgt := 10) hx hb dX10_sort_5 (by decide) (fun c1 => ?_) (fun c1 => ?_)
  · replace hf := it_f c1 hf
    refine lv_aload_n hx hb dX10_sort_10 rfl (lv_at hl 0 rfl) ?_
    refine r_get (k := 5) (v := .ref (ea E 28)) C hP oC_0 rfl iX10 (by decide) wm_t299 rfl rfl dX10_sort_11 ?_
    refine lv_iload_n hx hb dX10_sort_14 rfl (lv_at hl 1 rfl) ?_
    refine r_put (k := 1) (x := a0) C hP hS tyX2 tyX2_ok nmX2 oC_28 rfl iX2 (by decide) wm_t206 rfl rfl sC_28_1 rfl rfl (Nat.le_of_ble_eq_true rfl) dX10_sort_15 (fun H locs hP hS => ?_)
    obtain ⟨σ2, eσ2, hf⟩ := nmS_e hf
    rw [← eσ2] at hP
    refine lv_iconst (v := 1) hx hb dX10_sort_18 (by decide) ?_
    cases hf
    exact r_zret C rfl hP hS dX10_sort_19
  · replace hf := it_t c1 hf
    refine lv_iconst (v := 0) hx hb dX10_sort_8 (by decide) ?_
    cases hf
    exact r_zret C rfl hP hS dX10_sort_9
def fX10_sky (σ : St) (a0 : Int32) (a1 : Int32) (a2 : Int32) : Option (Int32 × St) :=
(cb (fX7_tell σ a0 a1 a2) fun r1 σ3 =>
(zb r1 (some (r1, σ3))))
set_option maxHeartbeats 4000000 in
theorem c_fX10_sky {E : Ev} {l : Launch} (hj : jW true E) (σ : St) (sz : Nat) (a0 : Int32) (a1 : Int32) (a2 : Int32) {rr : Int32} {sr : St} (hf : fX10_sky σ a0 a1 a2 = some (rr, sr)) : Met l yX10_sky (Cond.code yX10_sky cX10_sky 4 (some .boolean) :: gT) (rmD 3) (va_Pc [.ref (ea E 0), .int a0, .int a1, .int a2] (preW true E σ sz)) (QI true E rr sr sz) 0 0 (aW true E sz) := by
  refine r_entry (QI true E rr sr) hj (by decide) [.ref (ea E 0), .int a0, .int a1, .int a2] (Nat.le_of_ble_eq_true rfl) (fun p e s m args below meth c C => ?_)
  intro H locs ls hP hS hl
  have hl : lv_has ls 4 [(0, .ref (ea E 0)), (1, .int a0), (2, .int a1), (3, .int a2)] := hl
  obtain ⟨hx, hb, hr, hml, hown, hts, hlocks, hK, hX, hj⟩ := id C
  unfold fX10_sky at hf
  refine lv_aload_n hx hb dX10_sky_0 rfl (lv_at hl 0 rfl) ?_
  refine r_get (k := 0) (v := .ref (ea E 2)) C hP oC_0 rfl iX10 (by decide) wm_t294 rfl rfl dX10_sky_1 ?_
  refine lv_iload_n hx hb dX10_sky_4 rfl (lv_at hl 1 rfl) ?_
  refine lv_iload_n hx hb dX10_sky_5 rfl (lv_at hl 2 rfl) ?_
  refine lv_iload_n hx hb dX10_sky_6 rfl (lv_at hl 3 rfl) ?_
  obtain ⟨r1, σ3, hc2, hf⟩ := cb_e hf
  refine r_cVi (n := 3) (As := [.int a0, .int a1, .int a2]) (rest := []) C (c_fX7_tell hj σ H.size a0 a1 a2 hc2) oC_2 rfl gv_RX10_92 (by decide +kernel) (rmD_le (by decide) (by decide)) rfl rfl (Nat.le_of_ble_eq_true rfl) dX10_sky_7 hP hS hl.1 (fun H locs hP hS => ?_)
  obtain ⟨hz, hf⟩ := zb_e hf
  cases hf
  exact r_zret C (zb_nar hz) hP hS dX10_sky_10
def fX10_heap_79 (σ : St) (x4 : Int32) (x5 : Int32) (x6 : Int32) : Option (Int32 × St) :=
(wrK (stN 5) σ (5 + 1) x6 x4 fun σ1 =>
(wrK (stN 5) σ1 (5 + 2) x6 x5 fun σ3 =>
some (1, σ3)))
set_option maxHeartbeats 4000000 in
theorem b_fX10_heap_79 {E : Ev} {l : Launch} {p : Program} {e : Env} {s : State} {m : MethodId} {args : Array Value} {below : List Frame} {meth : Method} {c : Code} (C : CX true E RX10 cX10_heap 8 (some .boolean) p s m args meth c) {rr : Int32} {sr : St} : ∀ (σ : St) (x4 : Int32) (x5 : Int32) (x6 : Int32), fX10_heap_79 σ x4 x5 x6 = some (rr, sr) → GW true l (rmD 3) E 8 p e s m args below meth c (MQ below (QI true E rr sr s.heap.size) args s 0 0 (aW true E s.heap.size)) σ 79 [(0, .ref (ea E 0)), (4, .int x4), (5, .int x5), (6, .int x6)] [] := by
  intro σ x4 x5 x6 hf H locs ls hP hS hl
  obtain ⟨hx, hb, hr, hml, hown, hts, hlocks, hK, hX, hj⟩ := id C
  unfold fX10_heap_79 at hf
  refine lv_aload_n hx hb dX10_heap_79 rfl (lv_at hl 0 rfl) ?_
  refine r_get (k := 1) (v := .ref (ea E 5)) C hP oC_0 rfl iX10 (by decide) wm_t295 rfl rfl dX10_heap_80 ?_
  refine r_get (k := 3) (v := .ref (ea E (5 + 1))) C hP (oS fS_5) rfl iX8 (by decide) wm_t57 rfl rfl dX10_heap_83 ?_
  refine lv_iload hx hb dX10_heap_86 (lv_at hl 3 rfl) ?_
  refine lv_iload hx hb dX10_heap_88 (lv_at hl 1 rfl) ?_
  obtain ⟨h2, σ1, eσ1, hf⟩ := wrK_e hf
  refine r_ast C hP hS (aS_1 fS_5) h2 dX10_heap_90 (fun H locs hP hS => ?_)
  rw [← eσ1] at hP
  refine lv_aload_n hx hb dX10_heap_91 rfl (lv_at hl 0 rfl) ?_
  refine r_get (k := 1) (v := .ref (ea E 5)) C hP oC_0 rfl iX10 (by decide) wm_t295 rfl rfl dX10_heap_92 ?_
  refine r_get (k := 4) (v := .ref (ea E (5 + 2))) C hP (oS fS_5) rfl iX8 (by decide) wm_t61 rfl rfl dX10_heap_95 ?_
  refine lv_iload hx hb dX10_heap_98 (lv_at hl 3 rfl) ?_
  refine lv_iload hx hb dX10_heap_100 (lv_at hl 2 rfl) ?_
  obtain ⟨h4, σ3, eσ3, hf⟩ := wrK_e hf
  refine r_ast C hP hS (aS_2 fS_5) h4 dX10_heap_102 (fun H locs hP hS => ?_)
  rw [← eσ3] at hP
  refine lv_iconst (v := 1) hx hb dX10_heap_103 (by decide) ?_
  cases hf
  exact r_zret C rfl hP hS dX10_heap_104
def fX10_heap (σ : St) (a0 : Int32) (a1 : Int32) (a2 : Int32) (a3 : Int32) (a4 : Int32) : Option (Int32 × St) :=
(if (fX10_heapCell a0 a1 a2) = (-1) then
some (0, σ)
else
(if (fX10_within a3 100) = 0 then
some (0, σ)
else
(if (fX10_within a4 10000) = 0 then
some (0, σ)
else
(cq (fX8_height 5 σ ((fX10_heapCell a0 a1 a2) / 4)) fun r4 =>
(if a3 ≤ 0 then
(if 0 < a4 then
some (0, σ)
else
(if r4 ≤ (a2 + 1) then
fX10_heap_79 σ a3 a4 (fX10_heapCell a0 a1 a2)
else
some (0, σ)))
else
(if a2 ≤ r4 then
fX10_heap_79 σ a3 a4 (fX10_heapCell a0 a1 a2)
else
some (0, σ)))))))
set_option maxHeartbeats 4000000 in
theorem c_fX10_heap {E : Ev} {l : Launch} (hj : jW true E) (σ : St) (sz : Nat) (a0 : Int32) (a1 : Int32) (a2 : Int32) (a3 : Int32) (a4 : Int32) {rr : Int32} {sr : St} (hf : fX10_heap σ a0 a1 a2 a3 a4 = some (rr, sr)) : Met l yX10_heap (Cond.code yX10_heap cX10_heap 8 (some .boolean) :: gT) (rmD 3) (va_Pc [.ref (ea E 0), .int a0, .int a1, .int a2, .int a3, .int a4] (preW true E σ sz)) (QI true E rr sr sz) 0 0 (aW true E sz) := by
  refine r_entry (QI true E rr sr) hj (by decide) [.ref (ea E 0), .int a0, .int a1, .int a2, .int a3, .int a4] (Nat.le_of_ble_eq_true rfl) (fun p e s m args below meth c C => ?_)
  intro H locs ls hP hS hl
  have hl : lv_has ls 8 [(0, .ref (ea E 0)), (1, .int a0), (2, .int a1), (3, .int a2), (4, .int a3), (5, .int a4)] := hl
  obtain ⟨hx, hb, hr, hml, hown, hts, hlocks, hK, hX, hj⟩ := id C
  unfold fX10_heap at hf
  refine lv_iload_n hx hb dX10_heap_0 rfl (lv_at hl 1 rfl) ?_
  refine lv_iload_n hx hb dX10_heap_1 rfl (lv_at hl 2 rfl) ?_
  refine lv_iload_n hx hb dX10_heap_2 rfl (lv_at hl 3 rfl) ?_
  refine r_cSi (n := 3) (As := [.int a0, .int a1, .int a2]) (rest := []) C (c_fX10_heapCell hj σ H.size a0 a1 a2) gs_RX10_96 (by decide +kernel) (rmD_le (by decide) (by decide)) rfl rfl (Nat.le_of_ble_eq_true rfl) dX10_heap_3 hP hS hl.1 (fun H locs hP hS => ?_)
  refine lv_istore (lv' := [(6, .int (fX10_heapCell a0 a1 a2)), (0, .ref (ea E 0)), (1, .int a0), (2, .int a1), (3, .int a2), (4, .int a3), (5, .int a4)]) hx hb dX10_heap_6 hl (by decide) rfl (fun ls hl => ?_)
  refine lv_iload hx hb dX10_heap_8 (lv_at hl 0 rfl) ?_
  refine lv_iconst (v := (-1)) hx hb dX10_heap_10 (by decide) ?_
  refine lv_icmp_eq (tgt := 35) hx hb dX10_heap_11 (by decide) (fun c1 => ?_) (fun c1 => ?_)
  · replace hf := it_t c1 hf
    refine lv_iconst (v := 0) hx hb dX10_heap_35 (by decide) ?_
    cases hf
    exact r_zret C rfl hP hS dX10_heap_36
  · replace hf := it_f c1 hf
    refine lv_iload hx hb dX10_heap_14 (lv_at hl 5 rfl) ?_
    refine lv_bipush (v := 100) hx hb dX10_heap_16 (by decide) ?_
    refine r_cSi (n := 2) (As := [.int a3, .int 100]) (rest := []) C (c_fX10_within hj σ H.size a3 100) gs_RX10_85 (by decide +kernel) (rmD_le (by decide) (by decide)) rfl rfl (Nat.le_of_ble_eq_true rfl) dX10_heap_18 hP hS hl.1 (fun H locs hP hS => ?_)
    refine lv_if_eq (tgt := 35) hx hb dX10_heap_21 (by decide) (fun c2 => ?_) (fun c2 => ?_)
    · replace hf := it_t c2 hf
      refine lv_iconst (v := 0) hx hb dX10_heap_35 (by decide) ?_
      cases hf
      exact r_zret C rfl hP hS dX10_heap_36
    · replace hf := it_f c2 hf
      refine lv_iload hx hb dX10_heap_24 (lv_at hl 6 rfl) ?_
      refine lv_sipush (v := 10000) hx hb dX10_heap_26 (by decide) ?_
      refine r_cSi (n := 2) (As := [.int a4, .int 10000]) (rest := []) C (c_fX10_within hj σ H.size a4 10000) gs_RX10_85 (by decide +kernel) (rmD_le (by decide) (by decide)) rfl rfl (Nat.le_of_ble_eq_true rfl) dX10_heap_29 hP hS hl.1 (fun H locs hP hS => ?_)
      refine lv_if_ne (tgt := 37) hx hb dX10_heap_32 (by decide) (fun c3 => ?_) (fun c3 => ?_)
      · replace hf := it_f c3 hf
        refine lv_aload_n hx hb dX10_heap_37 rfl (lv_at hl 1 rfl) ?_
        refine r_get (k := 1) (v := .ref (ea E 5)) C hP oC_0 rfl iX10 (by decide) wm_t295 rfl rfl dX10_heap_38 ?_
        refine lv_iload hx hb dX10_heap_41 (lv_at hl 0 rfl) ?_
        refine lv_iconst (v := 4) hx hb dX10_heap_43 (by decide) ?_
        refine lv_idiv hx hb dX10_heap_44 (by decide) ?_
        obtain ⟨r4, hc5, hf⟩ := cq_e hf
        refine r_cVi (n := 1) (As := [.int ((fX10_heapCell a0 a1 a2) / 4)]) (rest := []) C (c_fX8_height fS_5 hj σ H.size ((fX10_heapCell a0 a1 a2) / 4) hc5) (oS fS_5) rfl gv_RX10_100 (by decide +kernel) (rmD_le (by decide) (by decide)) rfl rfl (Nat.le_of_ble_eq_true rfl) dX10_heap_45 hP hS hl.1 (fun H locs hP hS => ?_)
        refine lv_istore (lv' := [(7, .int r4), (6, .int (fX10_heapCell a0 a1 a2)), (0, .ref (ea E 0)), (1, .int a0), (2, .int a1), (3, .int a2), (4, .int a3), (5, .int a4)]) hx hb dX10_heap_48 hl (by decide) rfl (fun ls hl => ?_)
        refine lv_iload hx hb dX10_heap_50 (lv_at hl 6 rfl) ?_
        refine lv_if_le (tgt := 64) hx hb dX10_heap_52 (by decide) (fun c6 => ?_) (fun c6 => ?_)
        · replace hf := it_t c6 hf
          refine lv_iload hx hb dX10_heap_64 (lv_at hl 7 rfl) ?_
          refine lv_if_gt (tgt := 77) hx hb dX10_heap_66 (by decide) (fun c7 => ?_) (fun c7 => ?_)
          · replace hf := it_t c7 hf
            refine lv_iconst (v := 0) hx hb dX10_heap_77 (by decide) ?_
            cases hf
            exact r_zret C rfl hP hS dX10_heap_78
          · replace hf := it_f c7 hf
            refine lv_iload_n hx hb dX10_heap_69 rfl (lv_at hl 5 rfl) ?_
            refine lv_iconst (v := 1) hx hb dX10_heap_70 (by decide) ?_
            refine lv_iadd hx hb dX10_heap_71 ?_
            refine lv_iload hx hb dX10_heap_72 (lv_at hl 0 rfl) ?_
            refine lv_icmp_ge (tgt := 79) hx hb dX10_heap_74 (by decide) (fun c8 => ?_) (fun c8 => ?_)
            · replace hf := it_t c8 hf
              exact b_fX10_heap_79 C σ a3 a4 (fX10_heapCell a0 a1 a2) hf H locs ls hP hS (lv_sub hl [2, 6, 7, 1] rfl)
            · replace hf := it_f c8 hf
              refine lv_iconst (v := 0) hx hb dX10_heap_77 (by decide) ?_
              cases hf
              exact r_zret C rfl hP hS dX10_heap_78
        · replace hf := it_f c6 hf
          refine lv_iload_n hx hb dX10_heap_55 rfl (lv_at hl 5 rfl) ?_
          refine lv_iload hx hb dX10_heap_56 (lv_at hl 0 rfl) ?_
          refine lv_icmp_le (tgt := 79) hx hb dX10_heap_58 (by decide) (fun c9 => ?_) (fun c9 => ?_)
          · replace hf := it_t c9 hf
            exact b_fX10_heap_79 C σ a3 a4 (fX10_heapCell a0 a1 a2) hf H locs ls hP hS (lv_sub hl [2, 6, 7, 1] rfl)
          · replace hf := it_f c9 hf
            refine lv_goto (tgt := 77) hx hb dX10_heap_61 (by decide) ?_
            refine lv_iconst (v := 0) hx hb dX10_heap_77 (by decide) ?_
            cases hf
            exact r_zret C rfl hP hS dX10_heap_78
      · replace hf := it_t c3 hf
        refine lv_iconst (v := 0) hx hb dX10_heap_35 (by decide) ?_
        cases hf
        exact r_zret C rfl hP hS dX10_heap_36
