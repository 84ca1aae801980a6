def fX11_worstHarbour_9B (σ : St) (rec9 : Int32 → Int32 → Int32 → Int32 → Option Int32) (x1 : Int32) (x2 : Int32) (x3 : Int32) (x4 : Int32) : Option Int32 :=
(if 8 ≤ x4 then
some x1
else
(cq (fX11_countOf σ x4 (-1) (-1) 0) fun r2 =>
(cq (fX11_countOf σ x4 (-1) (-1) 1) fun r4 =>
(if (r2 + 2) = 2 then
rec9 x1 x2 x3 (x4 + 1)
else
(if x1 = (-1) then
rec9 x4 (r4 + 1) (r2 + 2) (x4 + 1)
else
(if (x2 * (r2 + 2)) < ((r4 + 1) * x3) then
rec9 x4 (r4 + 1) (r2 + 2) (x4 + 1)
else
rec9 x1 x2 x3 (x4 + 1)))))))
set_option maxHeartbeats 4000000 in
theorem b_fX11_worstHarbour_9B {E : Ev} {l : Launch} {p : Program} {e : Env} {s : State} {m : MethodId} {args : Array Value} {below : List Frame} {meth : Method} {c : Code} (σ : St) (C : CX false E RX11 cX11_worstHarbour 7 (some .int) p s m args meth c) {rr : Int32} (rec9 : Int32 → Int32 → Int32 → Int32 → Option Int32) (hr9 : ∀  (x1 : Int32) (x2 : Int32) (x3 : Int32) (x4 : Int32), rec9 x1 x2 x3 x4 = some rr → GW false l (rmD 2) E 7 p e s m args below meth c (MQ below (QI false E rr σ s.heap.size) args s 0 0 (aW false E s.heap.size)) σ 9 [(0, .ref (ea E 0)), (1, .int x1), (2, .int x2), (3, .int x3), (4, .int x4)] []) : ∀  (x1 : Int32) (x2 : Int32) (x3 : Int32) (x4 : Int32), fX11_worstHarbour_9B σ rec9 x1 x2 x3 x4 = some rr → GW false l (rmD 2) E 7 p e s m args below meth c (MQ below (QI false E rr σ s.heap.size) args s 0 0 (aW false E s.heap.size)) σ 9 [(0, .ref (ea E 0)), (1, .int x1), (2, .int x2), (3, .int x3), (4, .int x4)] [] := by
  intro x1 x2 x3 x4 hf H locs ls hP hS hl
  obtain ⟨hx, hb, hr, hml, hown, hts, hlocks, hK, hX, hj⟩ := id C
  unfold fX11_worstHarbour_9B at hf
  refine lv_iload hx hb dX11_worstHarbour_9 (lv_at hl 4 rfl) ?_
  refine lv_bipush (v := 8) hx hb dX11_worstHarbour_11 (by decide) ?_
  refine lv_icmp_ge (tgt := 82) hx hb dX11_worstHarbour_13 (by decide) (fun c1 => ?_) (fun c1 => ?_)
  · replace hf := it_t c1 hf
    refine lv_iload_n hx hb dX11_worstHarbour_82 rfl (lv_at hl 1 rfl) ?_
    cases hf
    exact r_iret C hP hS dX11_worstHarbour_83
  · replace hf := it_f c1 hf
    refine lv_aload_n hx hb dX11_worstHarbour_16 rfl (lv_at hl 0 rfl) ?_
    refine lv_iload hx hb dX11_worstHarbour_17 (lv_at hl 4 rfl) ?_
    refine lv_iconst (v := (-1)) hx hb dX11_worstHarbour_19 (by decide) ?_
    refine lv_iconst (v := (-1)) hx hb dX11_worstHarbour_20 (by decide) ?_
    refine lv_iconst (v := 0) hx hb dX11_worstHarbour_21 (by decide) ?_
    obtain ⟨r2, hc3, hf⟩ := cq_e hf
    refine r_cVi (n := 4) (As := [.int x4, .int (-1), .int (-1), .int 0]) (rest := []) C (c_fX11_countOf hj σ H.size x4 (-1) (-1) 0 hc3) oM_0 rfl gv_RX11_402 (by decide +kernel) (rmD_le (by decide) (by decide)) rfl rfl (Nat.le_of_ble_eq_true rfl) dX11_worstHarbour_22 hP hS hl.1 (fun H locs hP hS => ?_)
    refine lv_iconst (v := 2) hx hb dX11_worstHarbour_25 (by decide) ?_
    refine lv_iadd hx hb dX11_worstHarbour_26 ?_
    refine lv_istore (lv' := [(5, .int (r2 + 2)), (0, .ref (ea E 0)), (1, .int x1), (2, .int x2), (3, .int x3), (4, .int x4)]) hx hb dX11_worstHarbour_27 hl (by decide) rfl (fun ls hl => ?_)
    refine lv_aload_n hx hb dX11_worstHarbour_29 rfl (lv_at hl 1 rfl) ?_
    refine lv_iload hx hb dX11_worstHarbour_30 (lv_at hl 5 rfl) ?_
    refine lv_iconst (v := (-1)) hx hb dX11_worstHarbour_32 (by decide) ?_
    refine lv_iconst (v := (-1)) hx hb dX11_worstHarbour_33 (by decide) ?_
    refine lv_iconst (v := 1) hx hb dX11_worstHarbour_34 (by decide) ?_
    obtain ⟨r4, hc5, hf⟩ := cq_e hf
    refine r_cVi (n := 4) (As := [.int x4, .int (-1), .int (-1), .int 1]) (rest := []) C (c_fX11_countOf hj σ H.size x4 (-1) (-1) 1 hc5) oM_0 rfl gv_RX11_402 (by decide +kernel) (rmD_le (by decide) (by decide)) rfl rfl (Nat.le_of_ble_eq_true rfl) dX11_worstHarbour_35 hP hS hl.1 (fun H locs hP hS => ?_)
    refine lv_iconst (v := 1) hx hb dX11_worstHarbour_38 (by decide) ?_
    refine lv_iadd hx hb dX11_worstHarbour_39 ?_
    refine lv_istore (lv' := [(6, .int (r4 + 1)), (5, .int (r2 + 2)), (0, .ref (ea E 0)), (1, .int x1), (2, .int x2), (3, .int x3), (4, .int x4)]) hx hb dX11_worstHarbour_40 hl (by decide) rfl (fun ls hl => ?_)
    refine lv_iload hx hb dX11_worstHarbour_42 (lv_at hl 1 rfl) ?_
    refine lv_iconst (v := 2) hx hb dX11_worstHarbour_44 (by decide) ?_
    refine lv_icmp_eq (tgt := 76) hx hb dX11_worstHarbour_45 (by decide) (fun c6 => ?_) (fun c6 => ?_)
    · replace hf := it_t c6 hf
      refine lv_iinc (v := (x4 + 1)) (lv' := [(4, .int (x4 + 1)), (6, .int (r4 + 1)), (5, .int (r2 + 2)), (0, .ref (ea E 0)), (1, .int x1), (2, .int x2), (3, .int x3)]) hx hb dX11_worstHarbour_76 hl (k := 6) rfl rfl (by decide) rfl (fun ls hl => ?_)
      refine lv_goto (tgt := 9) hx hb dX11_worstHarbour_79 (by decide) ?_
      exact hr9 x1 x2 x3 (x4 + 1) hf H locs ls hP hS (lv_sub hl [3, 4, 5, 6, 0] rfl)
    · replace hf := it_f c6 hf
      refine lv_iload_n hx hb dX11_worstHarbour_48 rfl (lv_at hl 3 rfl) ?_
      refine lv_iconst (v := (-1)) hx hb dX11_worstHarbour_49 (by decide) ?_
      refine lv_icmp_eq (tgt := 67) hx hb dX11_worstHarbour_50 (by decide) (fun c7 => ?_) (fun c7 => ?_)
      · replace hf := it_t c7 hf
        refine lv_iload hx hb dX11_worstHarbour_67 (lv_at hl 6 rfl) ?_
        refine lv_istore_n (lv' := [(1, .int x4), (6, .int (r4 + 1)), (5, .int (r2 + 2)), (0, .ref (ea E 0)), (2, .int x2), (3, .int x3), (4, .int x4)]) hx hb dX11_worstHarbour_69 rfl hl (by decide) rfl (fun ls hl => ?_)
        refine lv_iload hx hb dX11_worstHarbour_70 (lv_at hl 1 rfl) ?_
        refine lv_istore_n (lv' := [(2, .int (r4 + 1)), (1, .int x4), (6, .int (r4 + 1)), (5, .int (r2 + 2)), (0, .ref (ea E 0)), (3, .int x3), (4, .int x4)]) hx hb dX11_worstHarbour_72 rfl hl (by decide) rfl (fun ls hl => ?_)
        refine lv_iload hx hb dX11_worstHarbour_73 (lv_at hl 3 rfl) ?_
        refine lv_istore_n (lv' := [(3, .int (r2 + 2)), (2, .int (r4 + 1)), (1, .int x4), (6, .int (r4 + 1)), (5, .int (r2 + 2)), (0, .ref (ea E 0)), (4, .int x4)]) hx hb dX11_worstHarbour_75 rfl hl (by decide) rfl (fun ls hl => ?_)
        refine lv_iinc (v := (x4 + 1)) (lv' := [(4, .int (x4 + 1)), (3, .int (r2 + 2)), (2, .int (r4 + 1)), (1, .int x4), (6, .int (r4 + 1)), (5, .int (r2 + 2)), (0, .ref (ea E 0))]) hx hb dX11_worstHarbour_76 hl (k := 6) rfl rfl (by decide) rfl (fun ls hl => ?_)
        refine lv_goto (tgt := 9) hx hb dX11_worstHarbour_79 (by decide) ?_
        exact hr9 x4 (r4 + 1) (r2 + 2) (x4 + 1) hf H locs ls hP hS (lv_sub hl [6, 3, 2, 1, 0] rfl)
      · replace hf := it_f c7 hf
        refine lv_iload hx hb dX11_worstHarbour_53 (lv_at hl 0 rfl) ?_
        refine lv_iload_n hx hb dX11_worstHarbour_55 rfl (lv_at hl 5 rfl) ?_
        refine lv_imul hx hb dX11_worstHarbour_56 ?_
        refine lv_iload_n hx hb dX11_worstHarbour_57 rfl (lv_at hl 4 rfl) ?_
        refine lv_iload hx hb dX11_worstHarbour_58 (lv_at hl 1 rfl) ?_
        refine lv_imul hx hb dX11_worstHarbour_60 ?_
        refine lv_icmp_gt (tgt := 67) hx hb dX11_worstHarbour_61 (by decide) (fun c8 => ?_) (fun c8 => ?_)
        · replace hf := it_t c8 hf
          refine lv_iload hx hb dX11_worstHarbour_67 (lv_at hl 6 rfl) ?_
          refine lv_istore_n (lv' := [(1, .int x4), (6, .int (r4 + 1)), (5, .int (r2 + 2)), (0, .ref (ea E 0)), (2, .int x2), (3, .int x3), (4, .int x4)]) hx hb dX11_worstHarbour_69 rfl hl (by decide) rfl (fun ls hl => ?_)
          refine lv_iload hx hb dX11_worstHarbour_70 (lv_at hl 1 rfl) ?_
          refine lv_istore_n (lv' := [(2, .int (r4 + 1)), (1, .int x4), (6, .int (r4 + 1)), (5, .int (r2 + 2)), (0, .ref (ea E 0)), (3, .int x3), (4, .int x4)]) hx hb dX11_worstHarbour_72 rfl hl (by decide) rfl (fun ls hl => ?_)
          refine lv_iload hx hb dX11_worstHarbour_73 (lv_at hl 3 rfl) ?_
          refine lv_istore_n (lv' := [(3, .int (r2 + 2)), (2, .int (r4 + 1)), (1, .int x4), (6, .int (r4 + 1)), (5, .int (r2 + 2)), (0, .ref (ea E 0)), (4, .int x4)]) hx hb dX11_worstHarbour_75 rfl hl (by decide) rfl (fun ls hl => ?_)
          refine lv_iinc (v := (x4 + 1)) (lv' := [(4, .int (x4 + 1)), (3, .int (r2 + 2)), (2, .int (r4 + 1)), (1, .int x4), (6, .int (r4 + 1)), (5, .int (r2 + 2)), (0, .ref (ea E 0))]) hx hb dX11_worstHarbour_76 hl (k := 6) rfl rfl (by decide) rfl (fun ls hl => ?_)
          refine lv_goto (tgt := 9) hx hb dX11_worstHarbour_79 (by decide) ?_
          exact hr9 x4 (r4 + 1) (r2 + 2) (x4 + 1) hf H locs ls hP hS (lv_sub hl [6, 3, 2, 1, 0] rfl)
        · replace hf := it_f c8 hf
          refine lv_goto (tgt := 76) hx hb dX11_worstHarbour_64 (by decide) ?_
          refine lv_iinc (v := (x4 + 1)) (lv' := [(4, .int (x4 + 1)), (6, .int (r4 + 1)), (5, .int (r2 + 2)), (0, .ref (ea E 0)), (1, .int x1), (2, .int x2), (3, .int x3)]) hx hb dX11_worstHarbour_76 hl (k := 6) rfl rfl (by decide) rfl (fun ls hl => ?_)
          refine lv_goto (tgt := 9) hx hb dX11_worstHarbour_79 (by decide) ?_
          exact hr9 x1 x2 x3 (x4 + 1) hf H locs ls hP hS (lv_sub hl [3, 4, 5, 6, 0] rfl)
def fX11_worstHarbour_9 (σ : St) : Nat → Int32 → Int32 → Int32 → Int32 → Option Int32
  | 0 => fun _ _ _ _ => none
  | n + 1 => fun x1 x2 x3 x4 => fX11_worstHarbour_9B σ (fX11_worstHarbour_9 σ n) x1 x2 x3 x4
theorem b_fX11_worstHarbour_9 {E : Ev} {l : Launch} {p : Program} {e : Env} {s : State} {m : MethodId} {args : Array Value} {below : List Frame} {meth : Method} {c : Code} (σ : St) (C : CX false E RX11 cX11_worstHarbour 7 (some .int) p s m args meth c) {rr : Int32} : ∀ (n : Nat) (x1 : Int32) (x2 : Int32) (x3 : Int32) (x4 : Int32), fX11_worstHarbour_9 σ n x1 x2 x3 x4 = some rr → GW false l (rmD 2) E 7 p e s m args below meth c (MQ below (QI false E rr σ s.heap.size) args s 0 0 (aW false E s.heap.size)) σ 9 [(0, .ref (ea E 0)), (1, .int x1), (2, .int x2), (3, .int x3), (4, .int x4)] [] := by
  intro n
  induction n with
  | zero => intro x1 x2 x3 x4 hf; have hf : (none : Option _) = some _ := hf; cases hf
  | succ n ih => intro x1 x2 x3 x4 hf; exact b_fX11_worstHarbour_9B σ C (fX11_worstHarbour_9 σ n) ih x1 x2 x3 x4 hf
def fX11_worstHarbour (σ : St) : Option Int32 :=
fX11_worstHarbour_9 σ FU (-1) 0 1 0
set_option maxHeartbeats 4000000 in
theorem c_fX11_worstHarbour {E : Ev} {l : Launch} (hj : jW false E) (σ : St) (sz : Nat) {rr : Int32} (hf : fX11_worstHarbour σ = some rr) : Met l yX11_worstHarbour (Cond.code yX11_worstHarbour cX11_worstHarbour 7 (some .int) :: gT) (rmD 2) (va_Pc [.ref (ea E 0)] (preW false E σ sz)) (QI false E rr σ sz) 0 0 (aW false E sz) := by
  refine r_entry (QI false E rr σ) hj (by decide) [.ref (ea E 0)] (Nat.le_of_ble_eq_true rfl) (fun p e s m args below meth c C => ?_)
  intro H locs ls hP hS hl
  have hl : lv_has ls 7 [(0, .ref (ea E 0))] := hl
  obtain ⟨hx, hb, hr, hml, hown, hts, hlocks, hK, hX, hj⟩ := id C
  unfold fX11_worstHarbour at hf
  refine lv_iconst (v := (-1)) hx hb dX11_worstHarbour_0 (by decide) ?_
  refine lv_istore_n (lv' := [(1, .int (-1)), (0, .ref (ea E 0))]) hx hb dX11_worstHarbour_1 rfl hl (by decide) rfl (fun ls hl => ?_)
  refine lv_iconst (v := 0) hx hb dX11_worstHarbour_2 (by decide) ?_
  refine lv_istore_n (lv' := [(2, .int 0), (1, .int (-1)), (0, .ref (ea E 0))]) hx hb dX11_worstHarbour_3 rfl hl (by decide) rfl (fun ls hl => ?_)
  refine lv_iconst (v := 1) hx hb dX11_worstHarbour_4 (by decide) ?_
  refine lv_istore_n (lv' := [(3, .int 1), (2, .int 0), (1, .int (-1)), (0, .ref (ea E 0))]) hx hb dX11_worstHarbour_5 rfl hl (by decide) rfl (fun ls hl => ?_)
  refine lv_iconst (v := 0) hx hb dX11_worstHarbour_6 (by decide) ?_
  refine lv_istore (lv' := [(4, .int 0), (3, .int 1), (2, .int 0), (1, .int (-1)), (0, .ref (ea E 0))]) hx hb dX11_worstHarbour_7 hl (by decide) rfl (fun ls hl => ?_)
  exact b_fX11_worstHarbour_9 σ C FU (-1) 0 1 0 hf H locs ls hP hS (lv_sub hl [4, 3, 2, 1, 0] rfl)
def fX11_risk (σ : St) (a0 : Int32) (a1 : Int32) (a2 : Int32) (a3 : Int32) : Option (Int32 × St) :=
(nmS (st_put σ 0 0 0) fun σ1 =>
(if a3 = 2 then
(cq (fX11_worstHarbour σ1) fun r12 =>
some (r12, σ1))
else
(if (fX11_isIn a0 (-1) 7) = 0 then
some ((-1), σ1)
else
(if (fX11_isIn a1 (-1) 11) = 0 then
some ((-1), σ1)
else
(if (fX11_isIn a2 (-1) 2) = 0 then
some ((-1), σ1)
else
(if (fX11_isIn a3 0 1) = 0 then
some ((-1), σ1)
else
(if a3 = 0 then
(cq (fX11_countOf σ1 a0 a1 a2 1) fun r10 =>
some ((r10 + 1), σ1))
else
(cq (fX11_countOf σ1 a0 a1 a2 0) fun r8 =>
some ((r8 + 2), σ1)))))))))
set_option maxHeartbeats 4000000 in
theorem c_fX11_risk {E : Ev} {l : Launch} (hj : jW false E) (σ : St) (sz : Nat) (a0 : Int32) (a1 : Int32) (a2 : Int32) (a3 : Int32) {rr : Int32} {sr : St} (hf : fX11_risk σ a0 a1 a2 a3 = some (rr, sr)) : Met l yX11_risk (Cond.code yX11_risk cX11_risk 5 (some .int) :: gT) (rmD 3) (va_Pc [.ref (ea E 0), .int a0, .int a1, .int a2, .int a3] (preW false E σ sz)) (QI false E rr sr sz) 0 0 (aW false E sz) := by
  refine r_entry (QI false E rr sr) hj (by decide) [.ref (ea E 0), .int a0, .int a1, .int a2, .int a3] (Nat.le_of_ble_eq_true rfl) (fun p e s m args below meth c C => ?_)
  intro H locs ls hP hS hl
  have hl : lv_has ls 5 [(0, .ref (ea E 0)), (1, .int a0), (2, .int a1), (3, .int a2), (4, .int a3)] := hl
  obtain ⟨hx, hb, hr, hml, hown, hts, hlocks, hK, hX, hj⟩ := id C
  unfold fX11_risk at hf
  refine lv_aload_n hx hb dX11_risk_0 rfl (lv_at hl 0 rfl) ?_
  refine lv_iconst (v := 0) hx hb dX11_risk_1 (by decide) ?_
  refine r_put (k := 0) (x := 0) C hP hS tyX11 tyX11_ok nmX11 oM_0 rfl iX11 (by decide) wm_t1017 rfl rfl sM_0_0 rfl rfl (Nat.le_of_ble_eq_true rfl) dX11_risk_2 (fun H locs hP hS => ?_)
  obtain ⟨σ1, eσ1, hf⟩ := nmS_e hf
  rw [← eσ1] at hP
  refine lv_iload hx hb dX11_risk_5 (lv_at hl 4 rfl) ?_
  refine lv_iconst (v := 2) hx hb dX11_risk_7 (by decide) ?_
  refine lv_icmp_ne (tgt := 16) hx hb dX11_risk_8 (by decide) (fun c2 => ?_) (fun c2 => ?_)
  · replace hf := it_f c2 hf
    refine lv_aload_n hx hb dX11_risk_16 rfl (lv_at hl 0 rfl) ?_
    refine lv_iload_n hx hb dX11_risk_17 rfl (lv_at hl 1 rfl) ?_
    refine lv_iconst (v := (-1)) hx hb dX11_risk_18 (by decide) ?_
    refine lv_bipush (v := 7) hx hb dX11_risk_19 (by decide) ?_
    refine r_cVi (n := 3) (As := [.int a0, .int (-1), .int 7]) (rest := []) C (c_fX11_isIn hj σ1 H.size a0 (-1) 7) oM_0 rfl gv_RX11_144 (by decide +kernel) (rmD_le (by decide) (by decide)) rfl rfl (Nat.le_of_ble_eq_true rfl) dX11_risk_21 hP hS hl.1 (fun H locs hP hS => ?_)
    refine lv_if_eq (tgt := 59) hx hb dX11_risk_24 (by decide) (fun c3 => ?_) (fun c3 => ?_)
    · replace hf := it_t c3 hf
      refine lv_iconst (v := (-1)) hx hb dX11_risk_59 (by decide) ?_
      cases hf
      exact r_iret C hP hS dX11_risk_60
    · replace hf := it_f c3 hf
      refine lv_aload_n hx hb dX11_risk_27 rfl (lv_at hl 0 rfl) ?_
      refine lv_iload_n hx hb dX11_risk_28 rfl (lv_at hl 2 rfl) ?_
      refine lv_iconst (v := (-1)) hx hb dX11_risk_29 (by decide) ?_
      refine lv_bipush (v := 11) hx hb dX11_risk_30 (by decide) ?_
      refine r_cVi (n := 3) (As := [.int a1, .int (-1), .int 11]) (rest := []) C (c_fX11_isIn hj σ1 H.size a1 (-1) 11) oM_0 rfl gv_RX11_144 (by decide +kernel) (rmD_le (by decide) (by decide)) rfl rfl (Nat.le_of_ble_eq_true rfl) dX11_risk_32 hP hS hl.1 (fun H locs hP hS => ?_)
      refine lv_if_eq (tgt := 59) hx hb dX11_risk_35 (by decide) (fun c4 => ?_) (fun c4 => ?_)
      · replace hf := it_t c4 hf
        refine lv_iconst (v := (-1)) hx hb dX11_risk_59 (by decide) ?_
        cases hf
        exact r_iret C hP hS dX11_risk_60
      · replace hf := it_f c4 hf
        refine lv_aload_n hx hb dX11_risk_38 rfl (lv_at hl 0 rfl) ?_
        refine lv_iload_n hx hb dX11_risk_39 rfl (lv_at hl 3 rfl) ?_
        refine lv_iconst (v := (-1)) hx hb dX11_risk_40 (by decide) ?_
        refine lv_iconst (v := 2) hx hb dX11_risk_41 (by decide) ?_
        refine r_cVi (n := 3) (As := [.int a2, .int (-1), .int 2]) (rest := []) C (c_fX11_isIn hj σ1 H.size a2 (-1) 2) oM_0 rfl gv_RX11_144 (by decide +kernel) (rmD_le (by decide) (by decide)) rfl rfl (Nat.le_of_ble_eq_true rfl) dX11_risk_42 hP hS hl.1 (fun H locs hP hS => ?_)
        refine lv_if_eq (tgt := 59) hx hb dX11_risk_45 (by decide) (fun c5 => ?_) (fun c5 => ?_)
        · replace hf := it_t c5 hf
          refine lv_iconst (v := (-1)) hx hb dX11_risk_59 (by decide) ?_
          cases hf
          exact r_iret C hP hS dX11_risk_60
        · replace hf := it_f c5 hf
          refine lv_aload_n hx hb dX11_risk_48 rfl (lv_at hl 0 rfl) ?_
          refine lv_iload hx hb dX11_risk_49 (lv_at hl 4 rfl) ?_
          refine lv_iconst (v := 0) hx hb dX11_risk_51 (by decide) ?_
          refine lv_iconst (v := 1) hx hb dX11_risk_52 (by decide) ?_
          refine r_cVi (n := 3) (As := [.int a3, .int 0, .int 1]) (rest := []) C (c_fX11_isIn hj σ1 H.size a3 0 1) oM_0 rfl gv_RX11_144 (by decide +kernel) (rmD_le (by decide) (by decide)) rfl rfl (Nat.le_of_ble_eq_true rfl) dX11_risk_53 hP hS hl.1 (fun H locs hP hS => ?_)
          refine lv_if_ne (tgt := 61) hx hb dX11_risk_56 (by decide) (fun c6 => ?_) (fun c6 => ?_)
          · replace hf := it_f c6 hf
            refine lv_iload hx hb dX11_risk_61 (lv_at hl 4 rfl) ?_
            refine lv_if_ne (tgt := 79) hx hb dX11_risk_63 (by decide) (fun c7 => ?_) (fun c7 => ?_)
            · replace hf := it_f c7 hf
              refine lv_aload_n hx hb dX11_risk_79 rfl (lv_at hl 0 rfl) ?_
              refine lv_iload_n hx hb dX11_risk_80 rfl (lv_at hl 1 rfl) ?_
              refine lv_iload_n hx hb dX11_risk_81 rfl (lv_at hl 2 rfl) ?_
              refine lv_iload_n hx hb dX11_risk_82 rfl (lv_at hl 3 rfl) ?_
              refine lv_iconst (v := 0) hx hb dX11_risk_83 (by decide) ?_
              obtain ⟨r8, hc9, hf⟩ := cq_e hf
              refine r_cVi (n := 4) (As := [.int a0, .int a1, .int a2, .int 0]) (rest := []) C (c_fX11_countOf hj σ1 H.size a0 a1 a2 0 hc9) oM_0 rfl gv_RX11_402 (by decide +kernel) (rmD_le (by decide) (by decide)) rfl rfl (Nat.le_of_ble_eq_true rfl) dX11_risk_84 hP hS hl.1 (fun H locs hP hS => ?_)
              refine lv_iconst (v := 2) hx hb dX11_risk_87 (by decide) ?_
              refine lv_iadd hx hb dX11_risk_88 ?_
              cases hf
              exact r_iret C hP hS dX11_risk_89
            · replace hf := it_t c7 hf
              refine lv_aload_n hx hb dX11_risk_66 rfl (lv_at hl 0 rfl) ?_
              refine lv_iload_n hx hb dX11_risk_67 rfl (lv_at hl 1 rfl) ?_
              refine lv_iload_n hx hb dX11_risk_68 rfl (lv_at hl 2 rfl) ?_
              refine lv_iload_n hx hb dX11_risk_69 rfl (lv_at hl 3 rfl) ?_
              refine lv_iconst (v := 1) hx hb dX11_risk_70 (by decide) ?_
              obtain ⟨r10, hc11, hf⟩ := cq_e hf
              refine r_cVi (n := 4) (As := [.int a0, .int a1, .int a2, .int 1]) (rest := []) C (c_fX11_countOf hj σ1 H.size a0 a1 a2 1 hc11) oM_0 rfl gv_RX11_402 (by decide +kernel) (rmD_le (by decide) (by decide)) rfl rfl (Nat.le_of_ble_eq_true rfl) dX11_risk_71 hP hS hl.1 (fun H locs hP hS => ?_)
              refine lv_iconst (v := 1) hx hb dX11_risk_74 (by decide) ?_
              refine lv_iadd hx hb dX11_risk_75 ?_
              refine lv_goto (tgt := 89) hx hb dX11_risk_76 (by decide) ?_
              cases hf
              exact r_iret C hP hS dX11_risk_89
          · replace hf := it_t c6 hf
            refine lv_iconst (v := (-1)) hx hb dX11_risk_59 (by decide) ?_
            cases hf
            exact r_iret C hP hS dX11_risk_60
  · replace hf := it_t c2 hf
    refine lv_aload_n hx hb dX11_risk_11 rfl (lv_at hl 0 rfl) ?_
    obtain ⟨r12, hc13, hf⟩ := cq_e hf
    refine r_cVi (n := 0) (As := []) (rest := []) C (c_fX11_worstHarbour hj σ1 H.size hc13) oM_0 rfl gv_RX11_406 (by decide +kernel) (rmD_le (by decide) (by decide)) rfl rfl (Nat.le_of_ble_eq_true rfl) dX11_risk_12 hP hS hl.1 (fun H locs hP hS => ?_)
    cases hf
    exact r_iret C hP hS dX11_risk_15
def fJ6_bitCount_0f7a4 (a0 : Int32) : Int32 :=
(nm (a0 - (((a0.toUInt32 >>> ((1 : Int32).toUInt32 &&& Int32.toUInt32 31)).toInt32) &&& 1431655765)) fun v1 =>
(nm ((v1 &&& 858993459) + (((v1.toUInt32 >>> ((2 : Int32).toUInt32 &&& Int32.toUInt32 31)).toInt32) &&& 858993459)) fun v2 =>
(nm ((v2 + ((v2.toUInt32 >>> ((4 : Int32).toUInt32 &&& Int32.toUInt32 31)).toInt32)) &&& 252645135) fun v3 =>
(nm (v3 + ((v3.toUInt32 >>> ((8 : Int32).toUInt32 &&& Int32.toUInt32 31)).toInt32)) fun v4 =>
(nm (v4 + ((v4.toUInt32 >>> ((16 : Int32).toUInt32 &&& Int32.toUInt32 31)).toInt32)) fun v5 =>
(v5 &&& 63))))))
set_option maxHeartbeats 4000000 in
theorem c_fJ6_bitCount_0f7a4 {E : Ev} {l : Launch} (hj : jW true E) (σ : St) (sz : Nat) (a0 : Int32) : Met l yJ6_bitCount_0f7a4 (Cond.code yJ6_bitCount_0f7a4 cJ6_bitCount_0f7a4 1 (some .int) :: gT) (rmD 1) (va_Pc [.int a0] (preW true E σ sz)) (QI true E (fJ6_bitCount_0f7a4 a0) σ sz) 0 0 (aW true E sz) := by
  refine r_entry (QI true E (fJ6_bitCount_0f7a4 a0) σ) hj (by decide) [.int a0] (Nat.le_of_ble_eq_true rfl) (fun p e s m args below meth c C => ?_)
  intro H locs ls hP hS hl
  have hl : lv_has ls 1 [(0, .int a0)] := hl
  obtain ⟨hx, hb, hr, hml, hown, hts, hlocks, hK, hX, hj⟩ := id C
  generalize hf : fJ6_bitCount_0f7a4 a0 = rr
  unfold fJ6_bitCount_0f7a4 at hf
  refine lv_iload_n hx hb dJ6_bitCount_0f7a4_0 rfl (lv_at hl 0 rfl) ?_
  refine lv_iload_n hx hb dJ6_bitCount_0f7a4_1 rfl (lv_at hl 0 rfl) ?_
  refine lv_iconst (v := 1) hx hb dJ6_bitCount_0f7a4_2 (by decide) ?_
  refine lv_iushr (v := (a0.toUInt32 >>> ((1 : Int32).toUInt32 &&& Int32.toUInt32 31)).toInt32) hx hb dJ6_bitCount_0f7a4_3 rfl ?_
  refine lv_ldcw (v := 1431655765) hx hb hown (hts _ wm_t895) dJ6_bitCount_0f7a4_4 ?_
  refine lv_iand hx hb dJ6_bitCount_0f7a4_7 ?_
  refine lv_isub hx hb dJ6_bitCount_0f7a4_8 ?_
  refine lv_topi (fun v1 ev1 => ?_)
  replace hf := nm_i ev1 hf
  refine lv_istore_n (lv' := [(0, .int v1)]) hx hb dJ6_bitCount_0f7a4_9 rfl hl (by decide) rfl (fun ls hl => ?_)
  refine lv_iload_n hx hb dJ6_bitCount_0f7a4_10 rfl (lv_at hl 0 rfl) ?_
  refine lv_ldcw (v := 858993459) hx hb hown (hts _ wm_t896) dJ6_bitCount_0f7a4_11 ?_
  refine lv_iand hx hb dJ6_bitCount_0f7a4_14 ?_
  refine lv_iload_n hx hb dJ6_bitCount_0f7a4_15 rfl (lv_at hl 0 rfl) ?_
  refine lv_iconst (v := 2) hx hb dJ6_bitCount_0f7a4_16 (by decide) ?_
  refine lv_iushr (v := (v1.toUInt32 >>> ((2 : Int32).toUInt32 &&& Int32.toUInt32 31)).toInt32) hx hb dJ6_bitCount_0f7a4_17 rfl ?_
  refine lv_ldcw (v := 858993459) hx hb hown (hts _ wm_t896) dJ6_bitCount_0f7a4_18 ?_
  refine lv_iand hx hb dJ6_bitCount_0f7a4_21 ?_
  refine lv_iadd hx hb dJ6_bitCount_0f7a4_22 ?_
  refine lv_topi (fun v2 ev2 => ?_)
  replace hf := nm_i ev2 hf
  refine lv_istore_n (lv' := [(0, .int v2)]) hx hb dJ6_bitCount_0f7a4_23 rfl hl (by decide) rfl (fun ls hl => ?_)
  refine lv_iload_n hx hb dJ6_bitCount_0f7a4_24 rfl (lv_at hl 0 rfl) ?_
  refine lv_iload_n hx hb dJ6_bitCount_0f7a4_25 rfl (lv_at hl 0 rfl) ?_
  refine lv_iconst (v := 4) hx hb dJ6_bitCount_0f7a4_26 (by decide) ?_
  refine lv_iushr (v := (v2.toUInt32 >>> ((4 : Int32).toUInt32 &&& Int32.toUInt32 31)).toInt32) hx hb dJ6_bitCount_0f7a4_27 rfl ?_
  refine lv_iadd hx hb dJ6_bitCount_0f7a4_28 ?_
  refine lv_ldcw (v := 252645135) hx hb hown (hts _ wm_t897) dJ6_bitCount_0f7a4_29 ?_
  refine lv_iand hx hb dJ6_bitCount_0f7a4_32 ?_
  refine lv_topi (fun v3 ev3 => ?_)
  replace hf := nm_i ev3 hf
  refine lv_istore_n (lv' := [(0, .int v3)]) hx hb dJ6_bitCount_0f7a4_33 rfl hl (by decide) rfl (fun ls hl => ?_)
  refine lv_iload_n hx hb dJ6_bitCount_0f7a4_34 rfl (lv_at hl 0 rfl) ?_
  refine lv_iload_n hx hb dJ6_bitCount_0f7a4_35 rfl (lv_at hl 0 rfl) ?_
  refine lv_bipush (v := 8) hx hb dJ6_bitCount_0f7a4_36 (by decide) ?_
  refine lv_iushr (v := (v3.toUInt32 >>> ((8 : Int32).toUInt32 &&& Int32.toUInt32 31)).toInt32) hx hb dJ6_bitCount_0f7a4_38 rfl ?_
  refine lv_iadd hx hb dJ6_bitCount_0f7a4_39 ?_
  refine lv_topi (fun v4 ev4 => ?_)
  replace hf := nm_i ev4 hf
  refine lv_istore_n (lv' := [(0, .int v4)]) hx hb dJ6_bitCount_0f7a4_40 rfl hl (by decide) rfl (fun ls hl => ?_)
  refine lv_iload_n hx hb dJ6_bitCount_0f7a4_41 rfl (lv_at hl 0 rfl) ?_
  refine lv_iload_n hx hb dJ6_bitCount_0f7a4_42 rfl (lv_at hl 0 rfl) ?_
  refine lv_bipush (v := 16) hx hb dJ6_bitCount_0f7a4_43 (by decide) ?_
  refine lv_iushr (v := (v4.toUInt32 >>> ((16 : Int32).toUInt32 &&& Int32.toUInt32 31)).toInt32) hx hb dJ6_bitCount_0f7a4_45 rfl ?_
  refine lv_iadd hx hb dJ6_bitCount_0f7a4_46 ?_
  refine lv_topi (fun v5 ev5 => ?_)
  replace hf := nm_i ev5 hf
  refine lv_istore_n (lv' := [(0, .int v5)]) hx hb dJ6_bitCount_0f7a4_47 rfl hl (by decide) rfl (fun ls hl => ?_)
  refine lv_iload_n hx hb dJ6_bitCount_0f7a4_48 rfl (lv_at hl 0 rfl) ?_
  refine lv_bipush (v := 63) hx hb dJ6_bitCount_0f7a4_49 (by decide) ?_
  refine lv_iand hx hb dJ6_bitCount_0f7a4_51 ?_
  subst hf
  exact r_iret C hP hS dJ6_bitCount_0f7a4_52
def fX0_lastWet (σ : St) : Option Int32 :=
(if (fX10_within ((σ 34 1) - 1) 60) = 0 then
some 0
else
(rdK 60 (σ 36) ((σ 34 1) - 1) fun v2 =>
some v2))
set_option maxHeartbeats 4000000 in
theorem c_fX0_lastWet {E : Ev} {l : Launch} (hj : jW true E) (σ : St) (sz : Nat) {rr : Int32} (hf : fX0_lastWet σ = some rr) : Met l yX0_lastWet (Cond.code yX0_lastWet cX0_lastWet 1 (some .int) :: gT) (rmD 2) (va_Pc [.ref (ea E 34)] (preW true E σ sz)) (QI true E rr σ sz) 0 0 (aW true E sz) := by
  refine r_entry (QI true E rr σ) hj (by decide) [.ref (ea E 34)] (Nat.le_of_ble_eq_true rfl) (fun p e s m args below meth c C => ?_)
  intro H locs ls hP hS hl
  have hl : lv_has ls 1 [(0, .ref (ea E 34))] := hl
  obtain ⟨hx, hb, hr, hml, hown, hts, hlocks, hK, hX, hj⟩ := id C
  unfold fX0_lastWet at hf
  refine lv_aload_n hx hb dX0_lastWet_0 rfl (lv_at hl 0 rfl) ?_
  refine r_get (k := 1) (v := .int (σ 34 1)) C hP oC_34 rfl iX0 (by decide) wm_t249 rfl rfl dX0_lastWet_1 ?_
  refine lv_iconst (v := 1) hx hb dX0_lastWet_4 (by decide) ?_
  refine lv_isub hx hb dX0_lastWet_5 ?_
  refine lv_bipush (v := 60) hx hb dX0_lastWet_6 (by decide) ?_
  refine r_cNi (n := 2) (As := [.int ((σ 34 1) - 1), .int 60]) (rest := []) (host := "SoupCargo") C (c_fX10_within hj σ H.size ((σ 34 1) - 1) 60) (by decide +kernel) wm_t343 wm_t1 wm_t342 (by decide +kernel) (rmD_le (by decide) (by decide)) rfl rfl (Nat.le_of_ble_eq_true rfl) dX0_lastWet_8 hP hS hl.1 (fun H locs hP hS => ?_)
  refine lv_if_eq (tgt := 28) hx hb dX0_lastWet_11 (by decide) (fun c1 => ?_) (fun c1 => ?_)
  · replace hf := it_t c1 hf
    refine lv_iconst (v := 0) hx hb dX0_lastWet_28 (by decide) ?_
    cases hf
    exact r_iret C hP hS dX0_lastWet_29
  · replace hf := it_f c1 hf
    refine lv_aload_n hx hb dX0_lastWet_14 rfl (lv_at hl 0 rfl) ?_
    refine r_get (k := 3) (v := .ref (ea E 36)) C hP oC_34 rfl iX0 (by decide) wm_t251 rfl rfl dX0_lastWet_15 ?_
    refine lv_aload_n hx hb dX0_lastWet_18 rfl (lv_at hl 0 rfl) ?_
    refine r_get (k := 1) (v := .int (σ 34 1)) C hP oC_34 rfl iX0 (by decide) wm_t249 rfl rfl dX0_lastWet_19 ?_
    refine lv_iconst (v := 1) hx hb dX0_lastWet_22 (by decide) ?_
    refine lv_isub hx hb dX0_lastWet_23 ?_
    have h3 := (rdK_e hf).1
    refine r_ald C hP aC_36 h3 dX0_lastWet_24 ?_
    refine lv_topi (fun v2 ev2 => ?_)
    replace hf := rdK_n ev2 hf
    refine lv_goto (tgt := 29) hx hb dX0_lastWet_25 (by decide) ?_
    cases hf
    exact r_iret C hP hS dX0_lastWet_29
def fX0_age (σ : St) (a0 : Int32) : Option Int32 :=
(if (fX10_within ((σ 34 1) - 1) 60) = 0 then
some 99
else
(rdK 60 (σ 37) ((σ 34 1) - 1) fun v2 =>
some (if 99 < (a0 - v2) then 99 else (a0 - v2))))
set_option maxHeartbeats 4000000 in
theorem c_fX0_age {E : Ev} {l : Launch} (hj : jW true E) (σ : St) (sz : Nat) (a0 : Int32) {rr : Int32} (hf : fX0_age σ a0 = some rr) : Met l yX0_age (Cond.code yX0_age cX0_age 2 (some .int) :: gT) (rmD 2) (va_Pc [.ref (ea E 34), .int a0] (preW true E σ sz)) (QI true E rr σ sz) 0 0 (aW true E sz) := by
  refine r_entry (QI true E rr σ) hj (by decide) [.ref (ea E 34), .int a0] (Nat.le_of_ble_eq_true rfl) (fun p e s m args below meth c C => ?_)
  intro H locs ls hP hS hl
  have hl : lv_has ls 2 [(0, .ref (ea E 34)), (1, .int a0)] := hl
  obtain ⟨hx, hb, hr, hml, hown, hts, hlocks, hK, hX, hj⟩ := id C
  unfold fX0_age at hf
  refine lv_aload_n hx hb dX0_age_0 rfl (lv_at hl 0 rfl) ?_
  refine r_get (k := 1) (v := .int (σ 34 1)) C hP oC_34 rfl iX0 (by decide) wm_t249 rfl rfl dX0_age_1 ?_
  refine lv_iconst (v := 1) hx hb dX0_age_4 (by decide) ?_
  refine lv_isub hx hb dX0_age_5 ?_
  refine lv_bipush (v := 60) hx hb dX0_age_6 (by decide) ?_
  refine r_cNi (n := 2) (As := [.int ((σ 34 1) - 1), .int 60]) (rest := []) (host := "SoupCargo") C (c_fX10_within hj σ H.size ((σ 34 1) - 1) 60) (by decide +kernel) wm_t343 wm_t1 wm_t342 (by decide +kernel) (rmD_le (by decide) (by decide)) rfl rfl (Nat.le_of_ble_eq_true rfl) dX0_age_8 hP hS hl.1 (fun H locs hP hS => ?_)
  refine lv_if_eq (tgt := 35) hx hb dX0_age_11 (by decide) (fun c1 => ?_) (fun c1 => ?_)
  · replace hf := it_t c1 hf
    refine lv_bipush (v := 99) hx hb dX0_age_35 (by decide) ?_
    cases hf
    exact r_iret C hP hS dX0_age_37
  · replace hf := it_f c1 hf
    refine lv_iload_n hx hb dX0_age_14 rfl (lv_at hl 1 rfl) ?_
    refine lv_aload_n hx hb dX0_age_15 rfl (lv_at hl 0 rfl) ?_
    refine r_get (k := 4) (v := .ref (ea E 37)) C hP oC_34 rfl iX0 (by decide) wm_t252 rfl rfl dX0_age_16 ?_
    refine lv_aload_n hx hb dX0_age_19 rfl (lv_at hl 0 rfl) ?_
    refine r_get (k := 1) (v := .int (σ 34 1)) C hP oC_34 rfl iX0 (by decide) wm_t249 rfl rfl dX0_age_20 ?_
    refine lv_iconst (v := 1) hx hb dX0_age_23 (by decide) ?_
    refine lv_isub hx hb dX0_age_24 ?_
    have h3 := (rdK_e hf).1
    refine r_ald C hP aC_37 h3 dX0_age_25 ?_
    refine lv_topi (fun v2 ev2 => ?_)
    replace hf := rdK_n ev2 hf
    refine lv_isub hx hb dX0_age_26 ?_
    refine lv_bipush (v := 99) hx hb dX0_age_27 (by decide) ?_
    refine va_mmin hx hb (hml.trans hl.1.symm) hown (hts _ wm_t847) (hts _ wm_t505) (hts _ wm_t4) (hts _ wm_t506) (by decide) (Nat.le_of_ble_eq_true rfl) (Nat.zero_le _) (Nat.zero_le _) dX0_age_29 ?_
    refine lv_goto (tgt := 37) hx hb dX0_age_32 (by decide) ?_
    cases hf
    exact r_iret C hP hS dX0_age_37
def fX0_least_67 (σ : St) (x3 : Int32) : Option Int32 :=
some (if 99 < x3 then 99 else x3)
set_option maxHeartbeats 4000000 in
theorem b_fX0_least_67 {E : Ev} {l : Launch} {p : Program} {e : Env} {s : State} {m : MethodId} {args : Array Value} {below : List Frame} {meth : Method} {c : Code} (σ : St) (C : CX true E RX0 cX0_least 5 (some .int) p s m args meth c) {rr : Int32} : ∀  (x3 : Int32), fX0_least_67 σ x3 = some rr → GW true l (rmD 3) E 5 p e s m args below meth c (MQ below (QI true E rr σ s.heap.size) args s 0 0 (aW true E s.heap.size)) σ 67 [(3, .int x3)] [] := by
  intro x3 hf H locs ls hP hS hl
  obtain ⟨hx, hb, hr, hml, hown, hts, hlocks, hK, hX, hj⟩ := id C
  unfold fX0_least_67 at hf
  refine lv_iload_n hx hb dX0_least_67 rfl (lv_at hl 0 rfl) ?_
  refine lv_bipush (v := 99) hx hb dX0_least_68 (by decide) ?_
  refine va_mmin hx hb (hml.trans hl.1.symm) hown (hts _ wm_t847) (hts _ wm_t505) (hts _ wm_t4) (hts _ wm_t506) (by decide) (Nat.le_of_ble_eq_true rfl) (Nat.zero_le _) (Nat.zero_le _) dX0_least_70 ?_
  cases hf
  exact r_iret C hP hS dX0_least_73
def fX0_least_5B (σ : St) (rec5 : Int32 → Int32 → Int32 → Int32 → Option Int32) (x1 : Int32) (x2 : Int32) (x3 : Int32) (x4 : Int32) : Option Int32 :=
(if (σ 34 1) ≤ x4 then
fX0_least_67 σ x3
else
(if 60 ≤ x4 then
fX0_least_67 σ x3
else
(rdK 60 (σ 37) x4 fun v3 =>
(if x2 < v3 then
rec5 x1 x2 x3 (x4 + 1)
else
(rdK 60 (σ 36) x4 fun v6 =>
(rdK 60 (σ 35) x4 fun v8 =>
(nm (if x3 < (v6 - ((σ 34 0) * (fX0_distance v8 x1))) then (v6 - ((σ 34 0) * (fX0_distance v8 x1))) else x3) fun v10 =>
rec5 x1 x2 v10 (x4 + 1))))))))
set_option maxHeartbeats 4000000 in
theorem b_fX0_least_5B {E : Ev} {l : Launch} {p : Program} {e : Env} {s : State} {m : MethodId} {args : Array Value} {below : List Frame} {meth : Method} {c : Code} (σ : St) (C : CX true E RX0 cX0_least 5 (some .int) p s m args meth c) {rr : Int32} (rec5 : Int32 → Int32 → Int32 → Int32 → Option Int32) (hr5 : ∀  (x1 : Int32) (x2 : Int32) (x3 : Int32) (x4 : Int32), rec5 x1 x2 x3 x4 = some rr → GW true l (rmD 3) E 5 p e s m args below meth c (MQ below (QI true E rr σ s.heap.size) args s 0 0 (aW true E s.heap.size)) σ 5 [(0, .ref (ea E 34)), (1, .int x1), (2, .int x2), (3, .int x3), (4, .int x4)] []) : ∀  (x1 : Int32) (x2 : Int32) (x3 : Int32) (x4 : Int32), fX0_least_5B σ rec5 x1 x2 x3 x4 = some rr → GW true l (rmD 3) E 5 p e s m args below meth c (MQ below (QI true E rr σ s.heap.size) args s 0 0 (aW true E s.heap.size)) σ 5 [(0, .ref (ea E 34)), (1, .int x1), (2, .int x2), (3, .int x3), (4, .int x4)] [] := by
  intro x1 x2 x3 x4 hf H locs ls hP hS hl
  obtain ⟨hx, hb, hr, hml, hown, hts, hlocks, hK, hX, hj⟩ := id C
  unfold fX0_least_5B at hf
  refine lv_iload hx hb dX0_least_5 (lv_at hl 4 rfl) ?_
  refine lv_aload_n hx hb dX0_least_7 rfl (lv_at hl 0 rfl) ?_
  refine r_get (k := 1) (v := .int (σ 34 1)) C hP oC_34 rfl iX0 (by decide) wm_t249 rfl rfl dX0_least_8 ?_
  refine lv_icmp_ge (tgt := 67) hx hb dX0_least_11 (by decide) (fun c1 => ?_) (fun c1 => ?_)
  · replace hf := it_t c1 hf
    exact b_fX0_least_67 σ C x3 hf H locs ls hP hS (lv_sub hl [3] rfl)
  · replace hf := it_f c1 hf
    refine lv_iload hx hb dX0_least_14 (lv_at hl 4 rfl) ?_
    refine lv_bipush (v := 60) hx hb dX0_least_16 (by decide) ?_
    refine lv_icmp_ge (tgt := 67) hx hb dX0_least_18 (by decide) (fun c2 => ?_) (fun c2 => ?_)
    · replace hf := it_t c2 hf
      exact b_fX0_least_67 σ C x3 hf H locs ls hP hS (lv_sub hl [3] rfl)
    · replace hf := it_f c2 hf
      refine lv_aload_n hx hb dX0_least_21 rfl (lv_at hl 0 rfl) ?_
      refine r_get (k := 4) (v := .ref (ea E 37)) C hP oC_34 rfl iX0 (by decide) wm_t252 rfl rfl dX0_least_22 ?_
      refine lv_iload hx hb dX0_least_25 (lv_at hl 4 rfl) ?_
      have h4 := (rdK_e hf).1
      refine r_ald C hP aC_37 h4 dX0_least_27 ?_
      refine lv_topi (fun v3 ev3 => ?_)
      replace hf := rdK_n ev3 hf
      refine lv_iload_n hx hb dX0_least_28 rfl (lv_at hl 2 rfl) ?_
      refine lv_icmp_gt (tgt := 61) hx hb dX0_least_29 (by decide) (fun c5 => ?_) (fun c5 => ?_)
      · replace hf := it_t c5 hf
        refine lv_iinc (v := (x4 + 1)) (lv' := [(4, .int (x4 + 1)), (0, .ref (ea E 34)), (1, .int x1), (2, .int x2), (3, .int x3)]) hx hb dX0_least_61 hl (k := 4) rfl rfl (by decide) rfl (fun ls hl => ?_)
        refine lv_goto (tgt := 5) hx hb dX0_least_64 (by decide) ?_
        exact hr5 x1 x2 x3 (x4 + 1) hf H locs ls hP hS (lv_sub hl [1, 2, 3, 4, 0] rfl)
      · replace hf := it_f c5 hf
        refine lv_iload_n hx hb dX0_least_32 rfl (lv_at hl 3 rfl) ?_
        refine lv_aload_n hx hb dX0_least_33 rfl (lv_at hl 0 rfl) ?_
        refine r_get (k := 3) (v := .ref (ea E 36)) C hP oC_34 rfl iX0 (by decide) wm_t251 rfl rfl dX0_least_34 ?_
        refine lv_iload hx hb dX0_least_37 (lv_at hl 4 rfl) ?_
        have h7 := (rdK_e hf).1
        refine r_ald C hP aC_36 h7 dX0_least_39 ?_
        refine lv_topi (fun v6 ev6 => ?_)
        replace hf := rdK_n ev6 hf
        refine lv_aload_n hx hb dX0_least_40 rfl (lv_at hl 0 rfl) ?_
        refine r_get (k := 0) (v := .int (σ 34 0)) C hP oC_34 rfl iX0 (by decide) wm_t247 rfl rfl dX0_least_41 ?_
        refine lv_aload_n hx hb dX0_least_44 rfl (lv_at hl 0 rfl) ?_
        refine r_get (k := 2) (v := .ref (ea E 35)) C hP oC_34 rfl iX0 (by decide) wm_t250 rfl rfl dX0_least_45 ?_
        refine lv_iload hx hb dX0_least_48 (lv_at hl 4 rfl) ?_
        have h9 := (rdK_e hf).1
        refine r_ald C hP aC_35 h9 dX0_least_50 ?_
        refine lv_topi (fun v8 ev8 => ?_)
        replace hf := rdK_n ev8 hf
        refine lv_iload_n hx hb dX0_least_51 rfl (lv_at hl 1 rfl) ?_
        refine r_cSi (n := 2) (As := [.int v8, .int x1]) (rest := [.int (σ 34 0), .int v6, .int x3]) C (c_fX0_distance hj σ H.size v8 x1) gs_RX0_38 (by decide +kernel) (rmD_le (by decide) (by decide)) rfl rfl (Nat.le_of_ble_eq_true rfl) dX0_least_52 hP hS hl.1 (fun H locs hP hS => ?_)
        refine lv_imul hx hb dX0_least_55 ?_
        refine lv_isub hx hb dX0_least_56 ?_
        refine va_mmax hx hb (hml.trans hl.1.symm) hown (hts _ wm_t846) (hts _ wm_t50) (hts _ wm_t4) (hts _ wm_t51) (by decide) (Nat.le_of_ble_eq_true rfl) (Nat.zero_le _) (Nat.zero_le _) dX0_least_57 ?_
        refine lv_topi (fun v10 ev10 => ?_)
        replace hf := nm_i ev10 hf
        refine lv_istore_n (lv' := [(3, .int v10), (0, .ref (ea E 34)), (1, .int x1), (2, .int x2), (4, .int x4)]) hx hb dX0_least_60 rfl hl (by decide) rfl (fun ls hl => ?_)
        refine lv_iinc (v := (x4 + 1)) (lv' := [(4, .int (x4 + 1)), (3, .int v10), (0, .ref (ea E 34)), (1, .int x1), (2, .int x2)]) hx hb dX0_least_61 hl (k := 4) rfl rfl (by decide) rfl (fun ls hl => ?_)
        refine lv_goto (tgt := 5) hx hb dX0_least_64 (by decide) ?_
        exact hr5 x1 x2 v10 (x4 + 1) hf H locs ls hP hS (lv_sub hl [2, 3, 4, 1, 0] rfl)
def fX0_least_5 (σ : St) : Nat → Int32 → Int32 → Int32 → Int32 → Option Int32
  | 0 => fun _ _ _ _ => none
  | n + 1 => fun x1 x2 x3 x4 => fX0_least_5B σ (fX0_least_5 σ n) x1 x2 x3 x4
theorem b_fX0_least_5 {E : Ev} {l : Launch} {p : Program} {e : Env} {s : State} {m : MethodId} {args : Array Value} {below : List Frame} {meth : Method} {c : Code} (σ : St) (C : CX true E RX0 cX0_least 5 (some .int) p s m args meth c) {rr : Int32} : ∀ (n : Nat) (x1 : Int32) (x2 : Int32) (x3 : Int32) (x4 : Int32), fX0_least_5 σ n x1 x2 x3 x4 = some rr → GW true l (rmD 3) E 5 p e s m args below meth c (MQ below (QI true E rr σ s.heap.size) args s 0 0 (aW true E s.heap.size)) σ 5 [(0, .ref (ea E 34)), (1, .int x1), (2, .int x2), (3, .int x3), (4, .int x4)] [] := by
  intro n
  induction n with
  | zero => intro x1 x2 x3 x4 hf; have hf : (none : Option _) = some _ := hf; cases hf
  | succ n ih => intro x1 x2 x3 x4 hf; exact b_fX0_least_5B σ C (fX0_least_5 σ n) ih x1 x2 x3 x4 hf
def fX0_least (σ : St) (a0 : Int32) (a1 : Int32) : Option Int32 :=
fX0_least_5 σ FU a0 a1 0 0
set_option maxHeartbeats 4000000 in
theorem c_fX0_least {E : Ev} {l : Launch} (hj : jW true E) (σ : St) (sz : Nat) (a0 : Int32) (a1 : Int32) {rr : Int32} (hf : fX0_least σ a0 a1 = some rr) : Met l yX0_least (Cond.code yX0_least cX0_least 5 (some .int) :: gT) (rmD 3) (va_Pc [.ref (ea E 34), .int a0, .int a1] (preW true E σ sz)) (QI true E rr σ sz) 0 0 (aW true E sz) := by
  refine r_entry (QI true E rr σ) hj (by decide) [.ref (ea E 34), .int a0, .int a1] (Nat.le_of_ble_eq_true rfl) (fun p e s m args below meth c C => ?_)
  intro H locs ls hP hS hl
  have hl : lv_has ls 5 [(0, .ref (ea E 34)), (1, .int a0), (2, .int a1)] := hl
  obtain ⟨hx, hb, hr, hml, hown, hts, hlocks, hK, hX, hj⟩ := id C
  unfold fX0_least at hf
  refine lv_iconst (v := 0) hx hb dX0_least_0 (by decide) ?_
  refine lv_istore_n (lv' := [(3, .int 0), (0, .ref (ea E 34)), (1, .int a0), (2, .int a1)]) hx hb dX0_least_1 rfl hl (by decide) rfl (fun ls hl => ?_)
  refine lv_iconst (v := 0) hx hb dX0_least_2 (by decide) ?_
  refine lv_istore (lv' := [(4, .int 0), (3, .int 0), (0, .ref (ea E 34)), (1, .int a0), (2, .int a1)]) hx hb dX0_least_3 hl (by decide) rfl (fun ls hl => ?_)
  exact b_fX0_least_5 σ C FU a0 a1 0 0 hf H locs ls hP hS (lv_sub hl [2, 3, 4, 1, 0] rfl)
def fX0_greatest_6B (σ : St) (rec6 : Int32 → Int32 → Int32 → Int32 → Option Int32) (x1 : Int32) (x2 : Int32) (x3 : Int32) (x4 : Int32) : Option Int32 :=
(if (σ 34 1) ≤ x4 then
some x3
else
(if 60 ≤ x4 then
some x3
else
(rdK 60 (σ 37) x4 fun v3 =>
(if x2 < v3 then
rec6 x1 x2 x3 (x4 + 1)
else
(rdK 60 (σ 36) x4 fun v6 =>
(rdK 60 (σ 35) x4 fun v8 =>
(nm (if (v6 + ((σ 34 0) * (fX0_distance v8 x1))) < x3 then (v6 + ((σ 34 0) * (fX0_distance v8 x1))) else x3) fun v10 =>
rec6 x1 x2 v10 (x4 + 1))))))))
set_option maxHeartbeats 4000000 in
theorem b_fX0_greatest_6B {E : Ev} {l : Launch} {p : Program} {e : Env} {s : State} {m : MethodId} {args : Array Value} {below : List Frame} {meth : Method} {c : Code} (σ : St) (C : CX true E RX0 cX0_greatest 5 (some .int) p s m args meth c) {rr : Int32} (rec6 : Int32 → Int32 → Int32 → Int32 → Option Int32) (hr6 : ∀  (x1 : Int32) (x2 : Int32) (x3 : Int32) (x4 : Int32), rec6 x1 x2 x3 x4 = some rr → GW true l (rmD 3) E 5 p e s m args below meth c (MQ below (QI true E rr σ s.heap.size) args s 0 0 (aW true E s.heap.size)) σ 6 [(0, .ref (ea E 34)), (1, .int x1), (2, .int x2), (3, .int x3), (4, .int x4)] []) : ∀  (x1 : Int32) (x2 : Int32) (x3 : Int32) (x4 : Int32), fX0_greatest_6B σ rec6 x1 x2 x3 x4 = some rr → GW true l (rmD 3) E 5 p e s m args below meth c (MQ below (QI true E rr σ s.heap.size) args s 0 0 (aW true E s.heap.size)) σ 6 [(0, .ref (ea E 34)), (1, .int x1), (2, .int x2), (3, .int x3), (4, .int x4)] [] := by
  intro x1 x2 x3 x4 hf H locs ls hP hS hl
  obtain ⟨hx, hb, hr, hml, hown, hts, hlocks, hK, hX, hj⟩ := id C
  unfold fX0_greatest_6B at hf
  refine lv_iload hx hb dX0_greatest_6 (lv_at hl 4 rfl) ?_
  refine lv_aload_n hx hb dX0_greatest_8 rfl (lv_at hl 0 rfl) ?_
  refine r_get (k := 1) (v := .int (σ 34 1)) C hP oC_34 rfl iX0 (by decide) wm_t249 rfl rfl dX0_greatest_9 ?_
  refine lv_icmp_ge (tgt := 68) hx hb dX0_greatest_12 (by decide) (fun c1 => ?_) (fun c1 => ?_)
  · replace hf := it_t c1 hf
    refine lv_iload_n hx hb dX0_greatest_68 rfl (lv_at hl 3 rfl) ?_
    cases hf
    exact r_iret C hP hS dX0_greatest_69
  · replace hf := it_f c1 hf
    refine lv_iload hx hb dX0_greatest_15 (lv_at hl 4 rfl) ?_
    refine lv_bipush (v := 60) hx hb dX0_greatest_17 (by decide) ?_
    refine lv_icmp_ge (tgt := 68) hx hb dX0_greatest_19 (by decide) (fun c2 => ?_) (fun c2 => ?_)
    · replace hf := it_t c2 hf
      refine lv_iload_n hx hb dX0_greatest_68 rfl (lv_at hl 3 rfl) ?_
      cases hf
      exact r_iret C hP hS dX0_greatest_69
    · replace hf := it_f c2 hf
      refine lv_aload_n hx hb dX0_greatest_22 rfl (lv_at hl 0 rfl) ?_
      refine r_get (k := 4) (v := .ref (ea E 37)) C hP oC_34 rfl iX0 (by decide) wm_t252 rfl rfl dX0_greatest_23 ?_
      refine lv_iload hx hb dX0_greatest_26 (lv_at hl 4 rfl) ?_
      have h4 := (rdK_e hf).1
      refine r_ald C hP aC_37 h4 dX0_greatest_28 ?_
      refine lv_topi (fun v3 ev3 => ?_)
      replace hf := rdK_n ev3 hf
      refine lv_iload_n hx hb dX0_greatest_29 rfl (lv_at hl 2 rfl) ?_
      refine lv_icmp_gt (tgt := 62) hx hb dX0_greatest_30 (by decide) (fun c5 => ?_) (fun c5 => ?_)
      · replace hf := it_t c5 hf
        refine lv_iinc (v := (x4 + 1)) (lv' := [(4, .int (x4 + 1)), (0, .ref (ea E 34)), (1, .int x1), (2, .int x2), (3, .int x3)]) hx hb dX0_greatest_62 hl (k := 4) rfl rfl (by decide) rfl (fun ls hl => ?_)
        refine lv_goto (tgt := 6) hx hb dX0_greatest_65 (by decide) ?_
        exact hr6 x1 x2 x3 (x4 + 1) hf H locs ls hP hS (lv_sub hl [1, 2, 3, 4, 0] rfl)
      · replace hf := it_f c5 hf
        refine lv_iload_n hx hb dX0_greatest_33 rfl (lv_at hl 3 rfl) ?_
        refine lv_aload_n hx hb dX0_greatest_34 rfl (lv_at hl 0 rfl) ?_
        refine r_get (k := 3) (v := .ref (ea E 36)) C hP oC_34 rfl iX0 (by decide) wm_t251 rfl rfl dX0_greatest_35 ?_
        refine lv_iload hx hb dX0_greatest_38 (lv_at hl 4 rfl) ?_
        have h7 := (rdK_e hf).1
        refine r_ald C hP aC_36 h7 dX0_greatest_40 ?_
        refine lv_topi (fun v6 ev6 => ?_)
        replace hf := rdK_n ev6 hf
        refine lv_aload_n hx hb dX0_greatest_41 rfl (lv_at hl 0 rfl) ?_
        refine r_get (k := 0) (v := .int (σ 34 0)) C hP oC_34 rfl iX0 (by decide) wm_t247 rfl rfl dX0_greatest_42 ?_
        refine lv_aload_n hx hb dX0_greatest_45 rfl (lv_at hl 0 rfl) ?_
        refine r_get (k := 2) (v := .ref (ea E 35)) C hP oC_34 rfl iX0 (by decide) wm_t250 rfl rfl dX0_greatest_46 ?_
        refine lv_iload hx hb dX0_greatest_49 (lv_at hl 4 rfl) ?_
        have h9 := (rdK_e hf).1
        refine r_ald C hP aC_35 h9 dX0_greatest_51 ?_
        refine lv_topi (fun v8 ev8 => ?_)
        replace hf := rdK_n ev8 hf
        refine lv_iload_n hx hb dX0_greatest_52 rfl (lv_at hl 1 rfl) ?_
        refine r_cSi (n := 2) (As := [.int v8, .int x1]) (rest := [.int (σ 34 0), .int v6, .int x3]) C (c_fX0_distance hj σ H.size v8 x1) gs_RX0_38 (by decide +kernel) (rmD_le (by decide) (by decide)) rfl rfl (Nat.le_of_ble_eq_true rfl) dX0_greatest_53 hP hS hl.1 (fun H locs hP hS => ?_)
        refine lv_imul hx hb dX0_greatest_56 ?_
        refine lv_iadd hx hb dX0_greatest_57 ?_
        refine va_mmin hx hb (hml.trans hl.1.symm) hown (hts _ wm_t847) (hts _ wm_t505) (hts _ wm_t4) (hts _ wm_t506) (by decide) (Nat.le_of_ble_eq_true rfl) (Nat.zero_le _) (Nat.zero_le _) dX0_greatest_58 ?_
        refine lv_topi (fun v10 ev10 => ?_)
        replace hf := nm_i ev10 hf
        refine lv_istore_n (lv' := [(3, .int v10), (0, .ref (ea E 34)), (1, .int x1), (2, .int x2), (4, .int x4)]) hx hb dX0_greatest_61 rfl hl (by decide) rfl (fun ls hl => ?_)
        refine lv_iinc (v := (x4 + 1)) (lv' := [(4, .int (x4 + 1)), (3, .int v10), (0, .ref (ea E 34)), (1, .int x1), (2, .int x2)]) hx hb dX0_greatest_62 hl (k := 4) rfl rfl (by decide) rfl (fun ls hl => ?_)
        refine lv_goto (tgt := 6) hx hb dX0_greatest_65 (by decide) ?_
        exact hr6 x1 x2 v10 (x4 + 1) hf H locs ls hP hS (lv_sub hl [2, 3, 4, 1, 0] rfl)
def fX0_greatest_6 (σ : St) : Nat → Int32 → Int32 → Int32 → Int32 → Option Int32
  | 0 => fun _ _ _ _ => none
  | n + 1 => fun x1 x2 x3 x4 => fX0_greatest_6B σ (fX0_greatest_6 σ n) x1 x2 x3 x4
theorem b_fX0_greatest_6 {E : Ev} {l : Launch} {p : Program} {e : Env} {s : State} {m : MethodId} {args : Array Value} {below : List Frame} {meth : Method} {c : Code} (σ : St) (C : CX true E RX0 cX0_greatest 5 (some .int) p s m args meth c) {rr : Int32} : ∀ (n : Nat) (x1 : Int32) (x2 : Int32) (x3 : Int32) (x4 : Int32), fX0_greatest_6 σ n x1 x2 x3 x4 = some rr → GW true l (rmD 3) E 5 p e s m args below meth c (MQ below (QI true E rr σ s.heap.size) args s 0 0 (aW true E s.heap.size)) σ 6 [(0, .ref (ea E 34)), (1, .int x1), (2, .int x2), (3, .int x3), (4, .int x4)] [] := by
  intro n
  induction n with
  | zero => intro x1 x2 x3 x4 hf; have hf : (none : Option _) = some _ := hf; cases hf
  | succ n ih => intro x1 x2 x3 x4 hf; exact b_fX0_greatest_6B σ C (fX0_greatest_6 σ n) ih x1 x2 x3 x4 hf
def fX0_greatest (σ : St) (a0 : Int32) (a1 : Int32) : Option Int32 :=
fX0_greatest_6 σ FU a0 a1 99 0
set_option maxHeartbeats 4000000 in
theorem c_fX0_greatest {E : Ev} {l : Launch} (hj : jW true E) (σ : St) (sz : Nat) (a0 : Int32) (a1 : Int32) {rr : Int32} (hf : fX0_greatest σ a0 a1 = some rr) : Met l yX0_greatest (Cond.code yX0_greatest cX0_greatest 5 (some .int) :: gT) (rmD 3) (va_Pc [.ref (ea E 34), .int a0, .int a1] (preW true E σ sz)) (QI true E rr σ sz) 0 0 (aW true E sz) := by
  refine r_entry (QI true E rr σ) hj (by decide) [.ref (ea E 34), .int a0, .int a1] (Nat.le_of_ble_eq_true rfl) (fun p e s m args below meth c C => ?_)
  intro H locs ls hP hS hl
  have hl : lv_has ls 5 [(0, .ref (ea E 34)), (1, .int a0), (2, .int a1)] := hl
  obtain ⟨hx, hb, hr, hml, hown, hts, hlocks, hK, hX, hj⟩ := id C
  unfold fX0_greatest at hf
  refine lv_bipush (v := 99) hx hb dX0_greatest_0 (by decide) ?_
  refine lv_istore_n (lv' := [(3, .int 99), (0, .ref (ea E 34)), (1, .int a0), (2, .int a1)]) hx hb dX0_greatest_2 rfl hl (by decide) rfl (fun ls hl => ?_)
  refine lv_iconst (v := 0) hx hb dX0_greatest_3 (by decide) ?_
  refine lv_istore (lv' := [(4, .int 0), (3, .int 99), (0, .ref (ea E 34)), (1, .int a0), (2, .int a1)]) hx hb dX0_greatest_4 hl (by decide) rfl (fun ls hl => ?_)
  exact b_fX0_greatest_6 σ C FU a0 a1 99 0 hf H locs ls hP hS (lv_sub hl [2, 3, 4, 1, 0] rfl)
def fX0_meanEnd_9B (σ : St) (rec9 : Int32 → Int32 → Int32 → Int32 → Int32 → Option Int32) (x2 : Int32) (x3 : Int32) (x4 : Int32) (x5 : Int32) (x6 : Int32) : Option Int32 :=
(if (nI (stN 5)) ≤ x6 then
(if x5 ≤ 0 then
some (-1)
else
(nz x5 (
some (x4 / x5))))
else
(rdK (stN 5) (σ (5 + 1)) x6 fun v4 =>
(if v4 ≤ 0 then
rec9 x2 x3 x4 x5 (x6 + 1)
else
(if x3 = 0 then
(cq (fX0_least σ x6 x2) fun r8 =>
rec9 x2 x3 (x4 + r8) (x5 + 1) (x6 + 1))
else
(cq (fX0_greatest σ x6 x2) fun r10 =>
rec9 x2 x3 (x4 + r10) (x5 + 1) (x6 + 1))))))
set_option maxHeartbeats 4000000 in
theorem b_fX0_meanEnd_9B {E : Ev} {l : Launch} {p : Program} {e : Env} {s : State} {m : MethodId} {args : Array Value} {below : List Frame} {meth : Method} {c : Code} (σ : St) (C : CX true E RX0 cX0_meanEnd 7 (some .int) p s m args meth c) {rr : Int32} (rec9 : Int32 → Int32 → Int32 → Int32 → Int32 → Option Int32) (hr9 : ∀  (x2 : Int32) (x3 : Int32) (x4 : Int32) (x5 : Int32) (x6 : Int32), rec9 x2 x3 x4 x5 x6 = some rr → GW true l (rmD 4) E 7 p e s m args below meth c (MQ below (QI true E rr σ s.heap.size) args s 0 0 (aW true E s.heap.size)) σ 9 [(0, .ref (ea E 34)), (1, .ref (ea E 5)), (2, .int x2), (3, .int x3), (4, .int x4), (5, .int x5), (6, .int x6)] []) : ∀  (x2 : Int32) (x3 : Int32) (x4 : Int32) (x5 : Int32) (x6 : Int32), fX0_meanEnd_9B σ rec9 x2 x3 x4 x5 x6 = some rr → GW true l (rmD 4) E 7 p e s m args below meth c (MQ below (QI true E rr σ s.heap.size) args s 0 0 (aW true E s.heap.size)) σ 9 [(0, .ref (ea E 34)), (1, .ref (ea E 5)), (2, .int x2), (3, .int x3), (4, .int x4), (5, .int x5), (6, .int x6)] [] := by
  intro x2 x3 x4 x5 x6 hf H locs ls hP hS hl
  obtain ⟨hx, hb, hr, hml, hown, hts, hlocks, hK, hX, hj⟩ := id C
  unfold fX0_meanEnd_9B at hf
  refine lv_iload hx hb dX0_meanEnd_9 (lv_at hl 6 rfl) ?_
  refine lv_aload_n hx hb dX0_meanEnd_11 rfl (lv_at hl 1 rfl) ?_
  refine r_get (k := 3) (v := .ref (ea E (5 + 1))) C hP (oS fS_5) rfl iX8 (by decide) wm_t59 rfl rfl dX0_meanEnd_12 ?_
  refine r_alen (v := (nI (stN 5))) C hP (aS_1 fS_5) rfl dX0_meanEnd_15 ?_
  refine lv_icmp_ge (tgt := 64) hx hb dX0_meanEnd_16 (by decide) (fun c1 => ?_) (fun c1 => ?_)
  · replace hf := it_t c1 hf
    refine lv_iload hx hb dX0_meanEnd_64 (lv_at hl 5 rfl) ?_
    refine lv_if_le (tgt := 77) hx hb dX0_meanEnd_66 (by decide) (fun c2 => ?_) (fun c2 => ?_)
    · replace hf := it_t c2 hf
      refine lv_iconst (v := (-1)) hx hb dX0_meanEnd_77 (by decide) ?_
      cases hf
      exact r_iret C hP hS dX0_meanEnd_78
    · replace hf := it_f c2 hf
      refine lv_iload hx hb dX0_meanEnd_69 (lv_at hl 4 rfl) ?_
      refine lv_iload hx hb dX0_meanEnd_71 (lv_at hl 5 rfl) ?_
      obtain ⟨h3, hf⟩ := nz_e hf
      refine lv_idiv hx hb dX0_meanEnd_73 h3 ?_
      refine lv_goto (tgt := 78) hx hb dX0_meanEnd_74 (by decide) ?_
      cases hf
      exact r_iret C hP hS dX0_meanEnd_78
  · replace hf := it_f c1 hf
    refine lv_aload_n hx hb dX0_meanEnd_19 rfl (lv_at hl 1 rfl) ?_
    refine r_get (k := 3) (v := .ref (ea E (5 + 1))) C hP (oS fS_5) rfl iX8 (by decide) wm_t59 rfl rfl dX0_meanEnd_20 ?_
    refine lv_iload hx hb dX0_meanEnd_23 (lv_at hl 6 rfl) ?_
    have h5 := (rdK_e hf).1
    refine r_ald C hP (aS_1 fS_5) h5 dX0_meanEnd_25 ?_
    refine lv_topi (fun v4 ev4 => ?_)
    replace hf := rdK_n ev4 hf
    refine lv_if_le (tgt := 58) hx hb dX0_meanEnd_26 (by decide) (fun c6 => ?_) (fun c6 => ?_)
    · replace hf := it_t c6 hf
      refine lv_iinc (v := (x6 + 1)) (lv' := [(6, .int (x6 + 1)), (0, .ref (ea E 34)), (1, .ref (ea E 5)), (2, .int x2), (3, .int x3), (4, .int x4), (5, .int x5)]) hx hb dX0_meanEnd_58 hl (k := 6) rfl rfl (by decide) rfl (fun ls hl => ?_)
      refine lv_goto (tgt := 9) hx hb dX0_meanEnd_61 (by decide) ?_
      exact hr9 x2 x3 x4 x5 (x6 + 1) hf H locs ls hP hS (lv_sub hl [1, 2, 3, 4, 5, 6, 0] rfl)
    · replace hf := it_f c6 hf
      refine lv_iload hx hb dX0_meanEnd_29 (lv_at hl 4 rfl) ?_
      refine lv_iload_n hx hb dX0_meanEnd_31 rfl (lv_at hl 3 rfl) ?_
      refine lv_if_eq (tgt := 45) hx hb dX0_meanEnd_32 (by decide) (fun c7 => ?_) (fun c7 => ?_)
      · replace hf := it_t c7 hf
        refine lv_aload_n hx hb dX0_meanEnd_45 rfl (lv_at hl 0 rfl) ?_
        refine lv_iload hx hb dX0_meanEnd_46 (lv_at hl 6 rfl) ?_
        refine lv_iload_n hx hb dX0_meanEnd_48 rfl (lv_at hl 2 rfl) ?_
        obtain ⟨r8, hc9, hf⟩ := cq_e hf
        refine r_cVi (n := 2) (As := [.int x6, .int x2]) (rest := [.int x4]) C (c_fX0_least hj σ H.size x6 x2 hc9) oC_34 rfl gv_RX0_52 (by decide +kernel) (rmD_le (by decide) (by decide)) rfl rfl (Nat.le_of_ble_eq_true rfl) dX0_meanEnd_49 hP hS hl.1 (fun H locs hP hS => ?_)
        refine lv_iadd hx hb dX0_meanEnd_52 ?_
        refine lv_istore (lv' := [(4, .int (x4 + r8)), (0, .ref (ea E 34)), (1, .ref (ea E 5)), (2, .int x2), (3, .int x3), (5, .int x5), (6, .int x6)]) hx hb dX0_meanEnd_53 hl (by decide) rfl (fun ls hl => ?_)
        refine lv_iinc (v := (x5 + 1)) (lv' := [(5, .int (x5 + 1)), (4, .int (x4 + r8)), (0, .ref (ea E 34)), (1, .ref (ea E 5)), (2, .int x2), (3, .int x3), (6, .int x6)]) hx hb dX0_meanEnd_55 hl (k := 5) rfl rfl (by decide) rfl (fun ls hl => ?_)
        refine lv_iinc (v := (x6 + 1)) (lv' := [(6, .int (x6 + 1)), (5, .int (x5 + 1)), (4, .int (x4 + r8)), (0, .ref (ea E 34)), (1, .ref (ea E 5)), (2, .int x2), (3, .int x3)]) hx hb dX0_meanEnd_58 hl (k := 6) rfl rfl (by decide) rfl (fun ls hl => ?_)
        refine lv_goto (tgt := 9) hx hb dX0_meanEnd_61 (by decide) ?_
        exact hr9 x2 x3 (x4 + r8) (x5 + 1) (x6 + 1) hf H locs ls hP hS (lv_sub hl [3, 4, 5, 6, 2, 1, 0] rfl)
      · replace hf := it_f c7 hf
        refine lv_aload_n hx hb dX0_meanEnd_35 rfl (lv_at hl 0 rfl) ?_
        refine lv_iload hx hb dX0_meanEnd_36 (lv_at hl 6 rfl) ?_
        refine lv_iload_n hx hb dX0_meanEnd_38 rfl (lv_at hl 2 rfl) ?_
        obtain ⟨r10, hc11, hf⟩ := cq_e hf
        refine r_cVi (n := 2) (As := [.int x6, .int x2]) (rest := [.int x4]) C (c_fX0_greatest hj σ H.size x6 x2 hc11) oC_34 rfl gv_RX0_49 (by decide +kernel) (rmD_le (by decide) (by decide)) rfl rfl (Nat.le_of_ble_eq_true rfl) dX0_meanEnd_39 hP hS hl.1 (fun H locs hP hS => ?_)
        refine lv_goto (tgt := 52) hx hb dX0_meanEnd_42 (by decide) ?_
        refine lv_iadd hx hb dX0_meanEnd_52 ?_
        refine lv_istore (lv' := [(4, .int (x4 + r10)), (0, .ref (ea E 34)), (1, .ref (ea E 5)), (2, .int x2), (3, .int x3), (5, .int x5), (6, .int x6)]) hx hb dX0_meanEnd_53 hl (by decide) rfl (fun ls hl => ?_)
        refine lv_iinc (v := (x5 + 1)) (lv' := [(5, .int (x5 + 1)), (4, .int (x4 + r10)), (0, .ref (ea E 34)), (1, .ref (ea E 5)), (2, .int x2), (3, .int x3), (6, .int x6)]) hx hb dX0_meanEnd_55 hl (k := 5) rfl rfl (by decide) rfl (fun ls hl => ?_)
        refine lv_iinc (v := (x6 + 1)) (lv' := [(6, .int (x6 + 1)), (5, .int (x5 + 1)), (4, .int (x4 + r10)), (0, .ref (ea E 34)), (1, .ref (ea E 5)), (2, .int x2), (3, .int x3)]) hx hb dX0_meanEnd_58 hl (k := 6) rfl rfl (by decide) rfl (fun ls hl => ?_)
        refine lv_goto (tgt := 9) hx hb dX0_meanEnd_61 (by decide) ?_
        exact hr9 x2 x3 (x4 + r10) (x5 + 1) (x6 + 1) hf H locs ls hP hS (lv_sub hl [3, 4, 5, 6, 2, 1, 0] rfl)
def fX0_meanEnd_9 (σ : St) : Nat → Int32 → Int32 → Int32 → Int32 → Int32 → Option Int32
  | 0 => fun _ _ _ _ _ => none
  | n + 1 => fun x2 x3 x4 x5 x6 => fX0_meanEnd_9B σ (fX0_meanEnd_9 σ n) x2 x3 x4 x5 x6
theorem b_fX0_meanEnd_9 {E : Ev} {l : Launch} {p : Program} {e : Env} {s : State} {m : MethodId} {args : Array Value} {below : List Frame} {meth : Method} {c : Code} (σ : St) (C : CX true E RX0 cX0_meanEnd 7 (some .int) p s m args meth c) {rr : Int32} : ∀ (n : Nat) (x2 : Int32) (x3 : Int32) (x4 : Int32) (x5 : Int32) (x6 : Int32), fX0_meanEnd_9 σ n x2 x3 x4 x5 x6 = some rr → GW true l (rmD 4) E 7 p e s m args below meth c (MQ below (QI true E rr σ s.heap.size) args s 0 0 (aW true E s.heap.size)) σ 9 [(0, .ref (ea E 34)), (1, .ref (ea E 5)), (2, .int x2), (3, .int x3), (4, .int x4), (5, .int x5), (6, .int x6)] [] := by
  intro n
  induction n with
  | zero => intro x2 x3 x4 x5 x6 hf; have hf : (none : Option _) = some _ := hf; cases hf
  | succ n ih => intro x2 x3 x4 x5 x6 hf; exact b_fX0_meanEnd_9B σ C (fX0_meanEnd_9 σ n) ih x2 x3 x4 x5 x6 hf
def fX0_meanEnd (σ : St) (a1 : Int32) (a2 : Int32) : Option Int32 :=
fX0_meanEnd_9 σ FU a1 a2 0 0 0
set_option maxHeartbeats 4000000 in
theorem c_fX0_meanEnd {E : Ev} {l : Launch} (hj : jW true E) (σ : St) (sz : Nat) (a1 : Int32) (a2 : Int32) {rr : Int32} (hf : fX0_meanEnd σ a1 a2 = some rr) : Met l yX0_meanEnd (Cond.code yX0_meanEnd cX0_meanEnd 7 (some .int) :: gT) (rmD 4) (va_Pc [.ref (ea E 34), .ref (ea E 5), .int a1, .int a2] (preW true E σ sz)) (QI true E rr σ sz) 0 0 (aW true E sz) := by
  refine r_entry (QI true E rr σ) hj (by decide) [.ref (ea E 34), .ref (ea E 5), .int a1, .int a2] (Nat.le_of_ble_eq_true rfl) (fun p e s m args below meth c C => ?_)
  intro H locs ls hP hS hl
  have hl : lv_has ls 7 [(0, .ref (ea E 34)), (1, .ref (ea E 5)), (2, .int a1), (3, .int a2)] := hl
  obtain ⟨hx, hb, hr, hml, hown, hts, hlocks, hK, hX, hj⟩ := id C
  unfold fX0_meanEnd at hf
  refine lv_iconst (v := 0) hx hb dX0_meanEnd_0 (by decide) ?_
  refine lv_istore (lv' := [(4, .int 0), (0, .ref (ea E 34)), (1, .ref (ea E 5)), (2, .int a1), (3, .int a2)]) hx hb dX0_meanEnd_1 hl (by decide) rfl (fun ls hl => ?_)
  refine lv_iconst (v := 0) hx hb dX0_meanEnd_3 (by decide) ?_
  refine lv_istore (lv' := [(5, .int 0), (4, .int 0), (0, .ref (ea E 34)), (1, .ref (ea E 5)), (2, .int a1), (3, .int a2)]) hx hb dX0_meanEnd_4 hl (by decide) rfl (fun ls hl => ?_)
  refine lv_iconst (v := 0) hx hb dX0_meanEnd_6 (by decide) ?_
  refine lv_istore (lv' := [(6, .int 0), (5, .int 0), (4, .int 0), (0, .ref (ea E 34)), (1, .ref (ea E 5)), (2, .int a1), (3, .int a2)]) hx hb dX0_meanEnd_7 hl (by decide) rfl (fun ls hl => ?_)
  exact b_fX0_meanEnd_9 σ C FU a1 a2 0 0 0 hf H locs ls hP hS (lv_sub hl [3, 4, 5, 6, 2, 1, 0] rfl)
def fX3_tell (σ : St) (a0 : Int32) (a1 : Int32) : Option (Int32 × St) :=
(if (fX10_within a0 8) = 0 then
some (0, σ)
else
(wrK 8 σ 39 a0 a1 fun σ2 =>
some (1, σ2)))
set_option maxHeartbeats 4000000 in
theorem c_fX3_tell {E : Ev} {l : Launch} (hj : jW true E) (σ : St) (sz : Nat) (a0 : Int32) (a1 : Int32) {rr : Int32} {sr : St} (hf : fX3_tell σ a0 a1 = some (rr, sr)) : Met l yX3_tell (Cond.code yX3_tell cX3_tell 3 (some .boolean) :: gT) (rmD 2) (va_Pc [.ref (ea E 38), .int a0, .int a1] (preW true E σ sz)) (QI true E rr sr sz) 0 0 (aW true E sz) := by
  refine r_entry (QI true E rr sr) hj (by decide) [.ref (ea E 38), .int a0, .int a1] (Nat.le_of_ble_eq_true rfl) (fun p e s m args below meth c C => ?_)
  intro H locs ls hP hS hl
  have hl : lv_has ls 3 [(0, .ref (ea E 38)), (1, .int a0), (2, .int a1)] := hl
  obtain ⟨hx, hb, hr, hml, hown, hts, hlocks, hK, hX, hj⟩ := id C
  unfold fX3_tell at hf
  refine lv_iload_n hx hb dX3_tell_0 rfl (lv_at hl 1 rfl) ?_
  refine lv_bipush (v := 8) hx hb dX3_tell_1 (by decide) ?_
  refine r_cNi (n := 2) (As := [.int a0, .int 8]) (rest := []) (host := "SoupCargo") C (c_fX10_within hj σ H.size a0 8) (by decide +kernel) wm_t343 wm_t1 wm_t342 (by decide +kernel) (rmD_le (by decide) (by decide)) rfl rfl (Nat.le_of_ble_eq_true rfl) dX3_tell_3 hP hS hl.1 (fun H locs hP hS => ?_)
  refine lv_if_ne (tgt := 11) hx hb dX3_tell_6 (by decide) (fun c1 => ?_) (fun c1 => ?_)
  · replace hf := it_f c1 hf
    refine lv_aload_n hx hb dX3_tell_11 rfl (lv_at hl 0 rfl) ?_
    refine r_get (k := 0) (v := .ref (ea E 39)) C hP oC_38 rfl iX3 (by decide) wm_t270 rfl rfl dX3_tell_12 ?_
    refine lv_iload_n hx hb dX3_tell_15 rfl (lv_at hl 1 rfl) ?_
    refine lv_iload_n hx hb dX3_tell_16 rfl (lv_at hl 2 rfl) ?_
    obtain ⟨h3, σ2, eσ2, hf⟩ := wrK_e hf
    refine r_ast C hP hS aC_39 h3 dX3_tell_17 (fun H locs hP hS => ?_)
    rw [← eσ2] at hP
    refine lv_iconst (v := 1) hx hb dX3_tell_18 (by decide) ?_
    cases hf
    exact r_zret C rfl hP hS dX3_tell_19
  · replace hf := it_t c1 hf
    refine lv_iconst (v := 0) hx hb dX3_tell_9 (by decide) ?_
    cases hf
    exact r_zret C rfl hP hS dX3_tell_10
def fX3_findNeeded_24B (rec24 : St → Int32 → Int32 → Option St) (σ : St) (x2 : Int32) (x3 : Int32) : Option St :=
(if (nI (stN 5)) ≤ x3 then
some σ
else
(rdK (stN 5) (σ (5 + 1)) x3 fun v2 =>
(if v2 ≤ 0 then
rec24 σ x2 (x3 + 1)
else
(cq (fX3_nearTo σ x3 x2) fun r5 =>
(wrK 256 σ 40 r5 (vp_nar .boolean 1) fun σ7 =>
rec24 σ7 x2 (x3 + 1))))))
set_option maxHeartbeats 4000000 in
theorem b_fX3_findNeeded_24B {E : Ev} {l : Launch} {p : Program} {e : Env} {s : State} {m : MethodId} {args : Array Value} {below : List Frame} {meth : Method} {c : Code} (C : CX true E RX3 cX3_findNeeded 4 none p s m args meth c) {sr : St} (rec24 : St → Int32 → Int32 → Option St) (hr24 : ∀ (σ : St) (x2 : Int32) (x3 : Int32), rec24 σ x2 x3 = some sr → GW true l (rmD 4) E 4 p e s m args below meth c (MQ below (QV true E sr s.heap.size) args s 0 0 (aW true E s.heap.size)) σ 24 [(0, .ref (ea E 38)), (1, .ref (ea E 5)), (2, .int x2), (3, .int x3)] []) : ∀ (σ : St) (x2 : Int32) (x3 : Int32), fX3_findNeeded_24B rec24 σ x2 x3 = some sr → GW true l (rmD 4) E 4 p e s m args below meth c (MQ below (QV true E sr s.heap.size) args s 0 0 (aW true E s.heap.size)) σ 24 [(0, .ref (ea E 38)), (1, .ref (ea E 5)), (2, .int x2), (3, .int x3)] [] := by
  intro σ x2 x3 hf H locs ls hP hS hl
  obtain ⟨hx, hb, hr, hml, hown, hts, hlocks, hK, hX, hj⟩ := id C
  unfold fX3_findNeeded_24B at hf
  refine lv_iload_n hx hb dX3_findNeeded_24 rfl (lv_at hl 3 rfl) ?_
  refine lv_aload_n hx hb dX3_findNeeded_25 rfl (lv_at hl 1 rfl) ?_
  refine r_get (k := 3) (v := .ref (ea E (5 + 1))) C hP (oS fS_5) rfl iX8 (by decide) wm_t56 rfl rfl dX3_findNeeded_26 ?_
  refine r_alen (v := (nI (stN 5))) C hP (aS_1 fS_5) rfl dX3_findNeeded_29 ?_
  refine lv_icmp_ge (tgt := 60) hx hb dX3_findNeeded_30 (by decide) (fun c1 => ?_) (fun c1 => ?_)
  · replace hf := it_t c1 hf
    cases hf
    exact r_vret C hP hS dX3_findNeeded_60
  · replace hf := it_f c1 hf
    refine lv_aload_n hx hb dX3_findNeeded_33 rfl (lv_at hl 1 rfl) ?_
    refine r_get (k := 3) (v := .ref (ea E (5 + 1))) C hP (oS fS_5) rfl iX8 (by decide) wm_t56 rfl rfl dX3_findNeeded_34 ?_
    refine lv_iload_n hx hb dX3_findNeeded_37 rfl (lv_at hl 3 rfl) ?_
    have h3 := (rdK_e hf).1
    refine r_ald C hP (aS_1 fS_5) h3 dX3_findNeeded_38 ?_
    refine lv_topi (fun v2 ev2 => ?_)
    replace hf := rdK_n ev2 hf
    refine lv_if_le (tgt := 54) hx hb dX3_findNeeded_39 (by decide) (fun c4 => ?_) (fun c4 => ?_)
    · replace hf := it_t c4 hf
      refine lv_iinc (v := (x3 + 1)) (lv' := [(3, .int (x3 + 1)), (0, .ref (ea E 38)), (1, .ref (ea E 5)), (2, .int x2)]) hx hb dX3_findNeeded_54 hl (k := 3) rfl rfl (by decide) rfl (fun ls hl => ?_)
      refine lv_goto (tgt := 24) hx hb dX3_findNeeded_57 (by decide) ?_
      exact hr24 σ x2 (x3 + 1) hf H locs ls hP hS (lv_sub hl [1, 2, 3, 0] rfl)
    · replace hf := it_f c4 hf
      refine lv_aload_n hx hb dX3_findNeeded_42 rfl (lv_at hl 0 rfl) ?_
      refine r_get (k := 1) (v := .ref (ea E 40)) C hP oC_38 rfl iX3 (by decide) wm_t271 rfl rfl dX3_findNeeded_43 ?_
      refine lv_aload_n hx hb dX3_findNeeded_46 rfl (lv_at hl 0 rfl) ?_
      refine lv_iload_n hx hb dX3_findNeeded_47 rfl (lv_at hl 3 rfl) ?_
      refine lv_iload_n hx hb dX3_findNeeded_48 rfl (lv_at hl 2 rfl) ?_
      obtain ⟨r5, hc6, hf⟩ := cq_e hf
      refine r_cVi (n := 2) (As := [.int x3, .int x2]) (rest := [.ref (ea E 40)]) C (c_fX3_nearTo hj σ H.size x3 x2 hc6) oC_38 rfl gv_RX3_42 (by decide +kernel) (rmD_le (by decide) (by decide)) rfl rfl (Nat.le_of_ble_eq_true rfl) dX3_findNeeded_49 hP hS hl.1 (fun H locs hP hS => ?_)
      refine lv_iconst (v := 1) hx hb dX3_findNeeded_52 (by decide) ?_
      obtain ⟨h8, σ7, eσ7, hf⟩ := wrK_e hf
      refine r_zast C hP hS aC_40 h8 dX3_findNeeded_53 (fun H locs hP hS => ?_)
      rw [← eσ7] at hP
      refine lv_iinc (v := (x3 + 1)) (lv' := [(3, .int (x3 + 1)), (0, .ref (ea E 38)), (1, .ref (ea E 5)), (2, .int x2)]) hx hb dX3_findNeeded_54 hl (k := 3) rfl rfl (by decide) rfl (fun ls hl => ?_)
      refine lv_goto (tgt := 24) hx hb dX3_findNeeded_57 (by decide) ?_
      exact hr24 σ7 x2 (x3 + 1) hf H locs ls hP hS (lv_sub hl [1, 2, 3, 0] rfl)
def fX3_findNeeded_24 : Nat → St → Int32 → Int32 → Option St
  | 0 => fun _ _ _ => none
  | n + 1 => fun σ x2 x3 => fX3_findNeeded_24B (fX3_findNeeded_24 n) σ x2 x3
theorem b_fX3_findNeeded_24 {E : Ev} {l : Launch} {p : Program} {e : Env} {s : State} {m : MethodId} {args : Array Value} {below : List Frame} {meth : Method} {c : Code} (C : CX true E RX3 cX3_findNeeded 4 none p s m args meth c) {sr : St} : ∀ (n : Nat) (σ : St) (x2 : Int32) (x3 : Int32), fX3_findNeeded_24 n σ x2 x3 = some sr → GW true l (rmD 4) E 4 p e s m args below meth c (MQ below (QV true E sr s.heap.size) args s 0 0 (aW true E s.heap.size)) σ 24 [(0, .ref (ea E 38)), (1, .ref (ea E 5)), (2, .int x2), (3, .int x3)] [] := by
  intro n
  induction n with
  | zero => intro σ x2 x3 hf; have hf : (none : Option _) = some _ := hf; cases hf
  | succ n ih => intro σ x2 x3 hf; exact b_fX3_findNeeded_24B C (fX3_findNeeded_24 n) ih σ x2 x3 hf
def fX3_findNeeded_2B (rec2 : St → Int32 → Int32 → Option St) (σ : St) (x2 : Int32) (x3 : Int32) : Option St :=
(if 256 ≤ x3 then
fX3_findNeeded_24 FU σ x2 0
else
(wrK 256 σ 40 x3 (vp_nar .boolean 0) fun σ2 =>
rec2 σ2 x2 (x3 + 1)))
set_option maxHeartbeats 4000000 in
theorem b_fX3_findNeeded_2B {E : Ev} {l : Launch} {p : Program} {e : Env} {s : State} {m : MethodId} {args : Array Value} {below : List Frame} {meth : Method} {c : Code} (C : CX true E RX3 cX3_findNeeded 4 none p s m args meth c) {sr : St} (rec2 : St → Int32 → Int32 → Option St) (hr2 : ∀ (σ : St) (x2 : Int32) (x3 : Int32), rec2 σ x2 x3 = some sr → GW true l (rmD 4) E 4 p e s m args below meth c (MQ below (QV true E sr s.heap.size) args s 0 0 (aW true E s.heap.size)) σ 2 [(0, .ref (ea E 38)), (1, .ref (ea E 5)), (2, .int x2), (3, .int x3)] []) : ∀ (σ : St) (x2 : Int32) (x3 : Int32), fX3_findNeeded_2B rec2 σ x2 x3 = some sr → GW true l (rmD 4) E 4 p e s m args below meth c (MQ below (QV true E sr s.heap.size) args s 0 0 (aW true E s.heap.size)) σ 2 [(0, .ref (ea E 38)), (1, .ref (ea E 5)), (2, .int x2), (3, .int x3)] [] := by
  intro σ x2 x3 hf H locs ls hP hS hl
  obtain ⟨hx, hb, hr, hml, hown, hts, hlocks, hK, hX, hj⟩ := id C
  unfold fX3_findNeeded_2B at hf
  refine lv_iload_n hx hb dX3_findNeeded_2 rfl (lv_at hl 3 rfl) ?_
  refine lv_sipush (v := 256) hx hb dX3_findNeeded_3 (by decide) ?_
  refine lv_icmp_ge (tgt := 22) hx hb dX3_findNeeded_6 (by decide) (fun c1 => ?_) (fun c1 => ?_)
  · replace hf := it_t c1 hf
    refine lv_iconst (v := 0) hx hb dX3_findNeeded_22 (by decide) ?_
    refine lv_istore_n (lv' := [(3, .int 0), (0, .ref (ea E 38)), (1, .ref (ea E 5)), (2, .int x2)]) hx hb dX3_findNeeded_23 rfl hl (by decide) rfl (fun ls hl => ?_)
    exact b_fX3_findNeeded_24 C FU σ x2 0 hf H locs ls hP hS (lv_sub hl [1, 2, 3, 0] rfl)
  · replace hf := it_f c1 hf
    refine lv_aload_n hx hb dX3_findNeeded_9 rfl (lv_at hl 0 rfl) ?_
    refine r_get (k := 1) (v := .ref (ea E 40)) C hP oC_38 rfl iX3 (by decide) wm_t271 rfl rfl dX3_findNeeded_10 ?_
    refine lv_iload_n hx hb dX3_findNeeded_13 rfl (lv_at hl 3 rfl) ?_
    refine lv_iconst (v := 0) hx hb dX3_findNeeded_14 (by decide) ?_
    obtain ⟨h3, σ2, eσ2, hf⟩ := wrK_e hf
    refine r_zast C hP hS aC_40 h3 dX3_findNeeded_15 (fun H locs hP hS => ?_)
    rw [← eσ2] at hP
    refine lv_iinc (v := (x3 + 1)) (lv' := [(3, .int (x3 + 1)), (0, .ref (ea E 38)), (1, .ref (ea E 5)), (2, .int x2)]) hx hb dX3_findNeeded_16 hl (k := 3) rfl rfl (by decide) rfl (fun ls hl => ?_)
    refine lv_goto (tgt := 2) hx hb dX3_findNeeded_19 (by decide) ?_
    exact hr2 σ2 x2 (x3 + 1) hf H locs ls hP hS (lv_sub hl [1, 2, 3, 0] rfl)
def fX3_findNeeded_2 : Nat → St → Int32 → Int32 → Option St
  | 0 => fun _ _ _ => none
  | n + 1 => fun σ x2 x3 => fX3_findNeeded_2B (fX3_findNeeded_2 n) σ x2 x3
theorem b_fX3_findNeeded_2 {E : Ev} {l : Launch} {p : Program} {e : Env} {s : State} {m : MethodId} {args : Array Value} {below : List Frame} {meth : Method} {c : Code} (C : CX true E RX3 cX3_findNeeded 4 none p s m args meth c) {sr : St} : ∀ (n : Nat) (σ : St) (x2 : Int32) (x3 : Int32), fX3_findNeeded_2 n σ x2 x3 = some sr → GW true l (rmD 4) E 4 p e s m args below meth c (MQ below (QV true E sr s.heap.size) args s 0 0 (aW true E s.heap.size)) σ 2 [(0, .ref (ea E 38)), (1, .ref (ea E 5)), (2, .int x2), (3, .int x3)] [] := by
  intro n
  induction n with
  | zero => intro σ x2 x3 hf; have hf : (none : Option _) = some _ := hf; cases hf
  | succ n ih => intro σ x2 x3 hf; exact b_fX3_findNeeded_2B C (fX3_findNeeded_2 n) ih σ x2 x3 hf
def fX3_findNeeded (σ : St) (a1 : Int32) : Option St :=
fX3_findNeeded_2 FU σ a1 0
set_option maxHeartbeats 4000000 in
theorem c_fX3_findNeeded {E : Ev} {l : Launch} (hj : jW true E) (σ : St) (sz : Nat) (a1 : Int32) {sr : St} (hf : fX3_findNeeded σ a1 = some sr) : Met l yX3_findNeeded (Cond.code yX3_findNeeded cX3_findNeeded 4 none :: gT) (rmD 4) (va_Pc [.ref (ea E 38), .ref (ea E 5), .int a1] (preW true E σ sz)) (QV true E sr sz) 0 0 (aW true E sz) := by
  refine r_entry (QV true E sr) hj (by decide) [.ref (ea E 38), .ref (ea E 5), .int a1] (Nat.le_of_ble_eq_true rfl) (fun p e s m args below meth c C => ?_)
  intro H locs ls hP hS hl
  have hl : lv_has ls 4 [(0, .ref (ea E 38)), (1, .ref (ea E 5)), (2, .int a1)] := hl
  obtain ⟨hx, hb, hr, hml, hown, hts, hlocks, hK, hX, hj⟩ := id C
  unfold fX3_findNeeded at hf
  refine lv_iconst (v := 0) hx hb dX3_findNeeded_0 (by decide) ?_
  refine lv_istore_n (lv' := [(3, .int 0), (0, .ref (ea E 38)), (1, .ref (ea E 5)), (2, .int a1)]) hx hb dX3_findNeeded_1 rfl hl (by decide) rfl (fun ls hl => ?_)
  exact b_fX3_findNeeded_2 C FU σ a1 0 hf H locs ls hP hS (lv_sub hl [1, 2, 3, 0] rfl)
def fX4_scan_144 (σ : St) (x1 : Int32) : Option St :=
(wrK 601 σ 26 x1 0 fun σ1 =>
(wrK 601 σ1 27 x1 (σ1 24 1) fun σ3 =>
some σ3))
set_option maxHeartbeats 4000000 in
theorem b_fX4_scan_144 {E : Ev} {l : Launch} {p : Program} {e : Env} {s : State} {m : MethodId} {args : Array Value} {below : List Frame} {meth : Method} {c : Code} (C : CX true E RX4 cX4_scan 5 none p s m args meth c) {sr : St} : ∀ (σ : St) (x1 : Int32), fX4_scan_144 σ x1 = some sr → GW true l (rmD 6) E 5 p e s m args below meth c (MQ below (QV true E sr s.heap.size) args s 0 0 (aW true E s.heap.size)) σ 144 [(0, .ref (ea E 24)), (1, .int x1)] [] := by
  intro σ x1 hf H locs ls hP hS hl
  obtain ⟨hx, hb, hr, hml, hown, hts, hlocks, hK, hX, hj⟩ := id C
  unfold fX4_scan_144 at hf
  refine lv_aload_n hx hb dX4_scan_144 rfl (lv_at hl 0 rfl) ?_
  refine r_get (k := 2) (v := .ref (ea E 26)) C hP oC_24 rfl iX4 (by decide) wm_t164 rfl rfl dX4_scan_145 ?_
  refine lv_iload_n hx hb dX4_scan_148 rfl (lv_at hl 1 rfl) ?_
  refine lv_iconst (v := 0) hx hb dX4_scan_149 (by decide) ?_
  obtain ⟨h2, σ1, eσ1, hf⟩ := wrK_e hf
  refine r_ast C hP hS aC_26 h2 dX4_scan_150 (fun H locs hP hS => ?_)
  rw [← eσ1] at hP
  refine lv_aload_n hx hb dX4_scan_151 rfl (lv_at hl 0 rfl) ?_
  refine r_get (k := 3) (v := .ref (ea E 27)) C hP oC_24 rfl iX4 (by decide) wm_t165 rfl rfl dX4_scan_152 ?_
  refine lv_iload_n hx hb dX4_scan_155 rfl (lv_at hl 1 rfl) ?_
  refine lv_aload_n hx hb dX4_scan_156 rfl (lv_at hl 0 rfl) ?_
  refine r_get (k := 1) (v := .int (σ1 24 1)) C hP oC_24 rfl iX4 (by decide) wm_t163 rfl rfl dX4_scan_157 ?_
  obtain ⟨h4, σ3, eσ3, hf⟩ := wrK_e hf
  refine r_ast C hP hS aC_27 h4 dX4_scan_160 (fun H locs hP hS => ?_)
  rw [← eσ3] at hP
  cases hf
  exact r_vret C hP hS dX4_scan_161
def fX4_scan_130 (rec4 : St → Int32 → Int32 → Option St) (σ : St) (x1 : Int32) (x2 : Int32) (x4 : Int32) : Option St :=
(wrK 601 σ 27 x1 x4 fun σ1 =>
rec4 σ1 (x1 + 1) x2)
set_option maxHeartbeats 4000000 in
theorem b_fX4_scan_130 {E : Ev} {l : Launch} {p : Program} {e : Env} {s : State} {m : MethodId} {args : Array Value} {below : List Frame} {meth : Method} {c : Code} (C : CX true E RX4 cX4_scan 5 none p s m args meth c) {sr : St} (rec4 : St → Int32 → Int32 → Option St) (hr4 : ∀ (σ : St) (x1 : Int32) (x2 : Int32), rec4 σ x1 x2 = some sr → GW true l (rmD 6) E 5 p e s m args below meth c (MQ below (QV true E sr s.heap.size) args s 0 0 (aW true E s.heap.size)) σ 4 [(0, .ref (ea E 24)), (1, .int x1), (2, .int x2)] []) : ∀ (σ : St) (x1 : Int32) (x2 : Int32) (x4 : Int32), fX4_scan_130 rec4 σ x1 x2 x4 = some sr → GW true l (rmD 6) E 5 p e s m args below meth c (MQ below (QV true E sr s.heap.size) args s 0 0 (aW true E s.heap.size)) σ 130 [(0, .ref (ea E 24)), (1, .int x1), (2, .int x2), (4, .int x4)] [] := by
  intro σ x1 x2 x4 hf H locs ls hP hS hl
  obtain ⟨hx, hb, hr, hml, hown, hts, hlocks, hK, hX, hj⟩ := id C
  unfold fX4_scan_130 at hf
  refine lv_aload_n hx hb dX4_scan_130 rfl (lv_at hl 0 rfl) ?_
  refine r_get (k := 3) (v := .ref (ea E 27)) C hP oC_24 rfl iX4 (by decide) wm_t165 rfl rfl dX4_scan_131 ?_
  refine lv_iload_n hx hb dX4_scan_134 rfl (lv_at hl 1 rfl) ?_
  refine lv_iload hx hb dX4_scan_135 (lv_at hl 3 rfl) ?_
  obtain ⟨h2, σ1, eσ1, hf⟩ := wrK_e hf
  refine r_ast C hP hS aC_27 h2 dX4_scan_137 (fun H locs hP hS => ?_)
  rw [← eσ1] at hP
  refine lv_iinc (v := (x1 + 1)) (lv' := [(1, .int (x1 + 1)), (0, .ref (ea E 24)), (2, .int x2), (4, .int x4)]) hx hb dX4_scan_138 hl (k := 1) rfl rfl (by decide) rfl (fun ls hl => ?_)
  refine lv_goto (tgt := 4) hx hb dX4_scan_141 (by decide) ?_
  exact hr4 σ1 (x1 + 1) x2 hf H locs ls hP hS (lv_sub hl [1, 0, 2] rfl)
def fX4_scan_129 (rec4 : St → Int32 → Int32 → Option St) (σ : St) (x1 : Int32) (x2 : Int32) (x4 : Int32) (y0 : Int32) (y1 : Int32) : Option St :=
(wrK 601 σ 26 y1 y0 fun σ1 =>
fX4_scan_130 rec4 σ1 x1 x2 x4)
set_option maxHeartbeats 4000000 in
theorem b_fX4_scan_129 {E : Ev} {l : Launch} {p : Program} {e : Env} {s : State} {m : MethodId} {args : Array Value} {below : List Frame} {meth : Method} {c : Code} (C : CX true E RX4 cX4_scan 5 none p s m args meth c) {sr : St} (rec4 : St → Int32 → Int32 → Option St) (hr4 : ∀ (σ : St) (x1 : Int32) (x2 : Int32), rec4 σ x1 x2 = some sr → GW true l (rmD 6) E 5 p e s m args below meth c (MQ below (QV true E sr s.heap.size) args s 0 0 (aW true E s.heap.size)) σ 4 [(0, .ref (ea E 24)), (1, .int x1), (2, .int x2)] []) : ∀ (σ : St) (x1 : Int32) (x2 : Int32) (x4 : Int32) (y0 : Int32) (y1 : Int32), fX4_scan_129 rec4 σ x1 x2 x4 y0 y1 = some sr → GW true l (rmD 6) E 5 p e s m args below meth c (MQ below (QV true E sr s.heap.size) args s 0 0 (aW true E s.heap.size)) σ 129 [(0, .ref (ea E 24)), (1, .int x1), (2, .int x2), (4, .int x4)] [.int y0, .int y1, .ref (ea E 26)] := by
  intro σ x1 x2 x4 y0 y1 hf H locs ls hP hS hl
  obtain ⟨hx, hb, hr, hml, hown, hts, hlocks, hK, hX, hj⟩ := id C
  unfold fX4_scan_129 at hf
  obtain ⟨h2, σ1, eσ1, hf⟩ := wrK_e hf
  refine r_ast C hP hS aC_26 h2 dX4_scan_129 (fun H locs hP hS => ?_)
  rw [← eσ1] at hP
  exact b_fX4_scan_130 C rec4 hr4 σ1 x1 x2 x4 hf H locs ls hP hS (lv_sub hl [0, 1, 2, 3] rfl)
def fX4_scan_4B (rec4 : St → Int32 → Int32 → Option St) (σ : St) (x1 : Int32) (x2 : Int32) : Option St :=
(if (σ 24 1) ≤ x2 then
fX4_scan_144 σ x1
else
(if 600 ≤ x1 then
fX4_scan_144 σ x1
else
(rdK 600 (σ 25) x2 fun v3 =>
(if v3 = 32 then
rec4 σ x1 (x2 + 1)
else
(if v3 = 10 then
rec4 σ x1 (x2 + 1)
else
(if (fX4_isLetter v3) = 0 then
(if (fX4_isDigit v3) = 0 then
(cq (fJ0_indexOf_0f7a4 2 (((v3 : Int32).toUInt32 % 65536).toInt32)) fun r9 =>
(if r9 < 0 then
fX4_scan_129 rec4 σ x1 (x2 + 1) x2 1 x1
else
fX4_scan_129 rec4 σ x1 (x2 + 1) x2 v3 x1))
else
(cq (fX4_runEnd σ x2 0) fun r12 =>
(cq (fX4_numberKind σ x2 r12) fun r14 =>
(wrK 601 σ 26 x1 r14 fun σ16 =>
fX4_scan_130 rec4 σ16 x1 r12 x2))))
else
(cq (fX4_runEnd σ x2 1) fun r18 =>
(cq (fX4_wordKind σ x2 r18) fun r20 =>
(wrK 601 σ 26 x1 r20 fun σ22 =>
fX4_scan_130 rec4 σ22 x1 r18 x2)))))))))
set_option maxHeartbeats 4000000 in
theorem b_fX4_scan_4B {E : Ev} {l : Launch} {p : Program} {e : Env} {s : State} {m : MethodId} {args : Array Value} {below : List Frame} {meth : Method} {c : Code} (C : CX true E RX4 cX4_scan 5 none p s m args meth c) {sr : St} (rec4 : St → Int32 → Int32 → Option St) (hr4 : ∀ (σ : St) (x1 : Int32) (x2 : Int32), rec4 σ x1 x2 = some sr → GW true l (rmD 6) E 5 p e s m args below meth c (MQ below (QV true E sr s.heap.size) args s 0 0 (aW true E s.heap.size)) σ 4 [(0, .ref (ea E 24)), (1, .int x1), (2, .int x2)] []) : ∀ (σ : St) (x1 : Int32) (x2 : Int32), fX4_scan_4B rec4 σ x1 x2 = some sr → GW true l (rmD 6) E 5 p e s m args below meth c (MQ below (QV true E sr s.heap.size) args s 0 0 (aW true E s.heap.size)) σ 4 [(0, .ref (ea E 24)), (1, .int x1), (2, .int x2)] [] := by
  intro σ x1 x2 hf H locs ls hP hS hl
  obtain ⟨hx, hb, hr, hml, hown, hts, hlocks, hK, hX, hj⟩ := id C
  unfold fX4_scan_4B at hf
  refine lv_iload_n hx hb dX4_scan_4 rfl (lv_at hl 2 rfl) ?_
  refine lv_aload_n hx hb dX4_scan_5 rfl (lv_at hl 0 rfl) ?_
  refine r_get (k := 1) (v := .int (σ 24 1)) C hP oC_24 rfl iX4 (by decide) wm_t163 rfl rfl dX4_scan_6 ?_
  refine lv_icmp_ge (tgt := 144) hx hb dX4_scan_9 (by decide) (fun c1 => ?_) (fun c1 => ?_)
  · replace hf := it_t c1 hf
    exact b_fX4_scan_144 C σ x1 hf H locs ls hP hS (lv_sub hl [0, 1] rfl)
  · replace hf := it_f c1 hf
    refine lv_iload_n hx hb dX4_scan_12 rfl (lv_at hl 1 rfl) ?_
    refine lv_sipush (v := 600) hx hb dX4_scan_13 (by decide) ?_
    refine lv_icmp_ge (tgt := 144) hx hb dX4_scan_16 (by decide) (fun c2 => ?_) (fun c2 => ?_)
    · replace hf := it_t c2 hf
      exact b_fX4_scan_144 C σ x1 hf H locs ls hP hS (lv_sub hl [0, 1] rfl)
    · replace hf := it_f c2 hf
      refine lv_aload_n hx hb dX4_scan_19 rfl (lv_at hl 0 rfl) ?_
      refine r_get (k := 0) (v := .ref (ea E 25)) C hP oC_24 rfl iX4 (by decide) wm_t162 rfl rfl dX4_scan_20 ?_
      refine lv_iload_n hx hb dX4_scan_23 rfl (lv_at hl 2 rfl) ?_
      have h4 := (rdK_e hf).1
      refine r_ald C hP aC_25 h4 dX4_scan_24 ?_
      refine lv_topi (fun v3 ev3 => ?_)
      replace hf := rdK_n ev3 hf
      refine lv_istore_n (lv' := [(3, .int v3), (0, .ref (ea E 24)), (1, .int x1), (2, .int x2)]) hx hb dX4_scan_25 rfl hl (by decide) rfl (fun ls hl => ?_)
      refine lv_iload_n hx hb dX4_scan_26 rfl (lv_at hl 3 rfl) ?_
      refine lv_istore (lv' := [(4, .int x2), (3, .int v3), (0, .ref (ea E 24)), (1, .int x1), (2, .int x2)]) hx hb dX4_scan_27 hl (by decide) rfl (fun ls hl => ?_)
      refine lv_iinc (v := (x2 + 1)) (lv' := [(2, .int (x2 + 1)), (4, .int x2), (3, .int v3), (0, .ref (ea E 24)), (1, .int x1)]) hx hb dX4_scan_29 hl (k := 4) rfl rfl (by decide) rfl (fun ls hl => ?_)
      refine lv_iload_n hx hb dX4_scan_32 rfl (lv_at hl 2 rfl) ?_
      refine lv_bipush (v := 32) hx hb dX4_scan_33 (by decide) ?_
      refine lv_icmp_eq (tgt := 4) hx hb dX4_scan_35 (by decide) (fun c5 => ?_) (fun c5 => ?_)
      · replace hf := it_t c5 hf
        exact hr4 σ x1 (x2 + 1) hf H locs ls hP hS (lv_sub hl [3, 4, 0] rfl)
      · replace hf := it_f c5 hf
        refine lv_iload_n hx hb dX4_scan_38 rfl (lv_at hl 2 rfl) ?_
        refine lv_bipush (v := 10) hx hb dX4_scan_39 (by decide) ?_
        refine lv_icmp_ne (tgt := 47) hx hb dX4_scan_41 (by decide) (fun c6 => ?_) (fun c6 => ?_)
        · replace hf := it_f c6 hf
          refine lv_iload_n hx hb dX4_scan_47 rfl (lv_at hl 2 rfl) ?_
          refine r_cSi (n := 1) (As := [.int v3]) (rest := []) C (c_fX4_isLetter hj σ H.size v3) gs_RX4_58 (by decide +kernel) (rmD_le (by decide) (by decide)) rfl rfl (Nat.le_of_ble_eq_true rfl) dX4_scan_48 hP hS hl.1 (fun H locs hP hS => ?_)
          refine lv_if_eq (tgt := 78) hx hb dX4_scan_51 (by decide) (fun c7 => ?_) (fun c7 => ?_)
          · replace hf := it_t c7 hf
            refine lv_iload_n hx hb dX4_scan_78 rfl (lv_at hl 2 rfl) ?_
            refine r_cSi (n := 1) (As := [.int v3]) (rest := []) C (c_fX4_isDigit hj σ H.size v3) gs_RX4_70 (by decide +kernel) (rmD_le (by decide) (by decide)) rfl rfl (Nat.le_of_ble_eq_true rfl) dX4_scan_79 hP hS hl.1 (fun H locs hP hS => ?_)
            refine lv_if_eq (tgt := 109) hx hb dX4_scan_82 (by decide) (fun c8 => ?_) (fun c8 => ?_)
            · replace hf := it_t c8 hf
              refine lv_aload_n hx hb dX4_scan_109 rfl (lv_at hl 3 rfl) ?_
              refine r_get (k := 2) (v := .ref (ea E 26)) C hP oC_24 rfl iX4 (by decide) wm_t164 rfl rfl dX4_scan_110 ?_
              refine lv_iload_n hx hb dX4_scan_113 rfl (lv_at hl 4 rfl) ?_
              refine va_ldcS hx hb hown (hX.2.2.1 2 (by decide)) dX4_scan_114 ?_
              refine lv_iload_n hx hb dX4_scan_116 rfl (lv_at hl 2 rfl) ?_
              refine lv_i2c (v := ((v3 : Int32).toUInt32 % 65536).toInt32) hx hb dX4_scan_117 rfl ?_
              obtain ⟨r9, hc10, hf⟩ := cq_e hf
              refine r_cTi (n := 1) (As := [.int (((v3 : Int32).toUInt32 % 65536).toInt32)]) (rest := [.int x1, .ref (ea E 26)]) C (c_fJ0_indexOf_0f7a4 fK_2 hj σ H.size (((v3 : Int32).toUInt32 % 65536).toInt32) hc10) (vk_recv hX.2.1 fK_2 hS) gv_RX4_78 (by decide +kernel) (rmD_le (by decide) (by decide)) rfl rfl (Nat.le_of_ble_eq_true rfl) dX4_scan_118 hP hS hl.1 (fun H locs hP hS => ?_)
              refine lv_if_lt (tgt := 128) hx hb dX4_scan_121 (by decide) (fun c11 => ?_) (fun c11 => ?_)
              · replace hf := it_t c11 hf
                refine lv_iconst (v := 1) hx hb dX4_scan_128 (by decide) ?_
                exact b_fX4_scan_129 C rec4 hr4 σ x1 (x2 + 1) x2 1 x1 hf H locs ls hP hS (lv_sub hl [3, 4, 0, 1] rfl)
              · replace hf := it_f c11 hf
                refine lv_iload_n hx hb dX4_scan_124 rfl (lv_at hl 2 rfl) ?_
                refine lv_goto (tgt := 129) hx hb dX4_scan_125 (by decide) ?_
                exact b_fX4_scan_129 C rec4 hr4 σ x1 (x2 + 1) x2 v3 x1 hf H locs ls hP hS (lv_sub hl [3, 4, 0, 1] rfl)
            · replace hf := it_f c8 hf
              refine lv_aload_n hx hb dX4_scan_85 rfl (lv_at hl 3 rfl) ?_
              refine lv_iload hx hb dX4_scan_86 (lv_at hl 1 rfl) ?_
              refine lv_iconst (v := 0) hx hb dX4_scan_88 (by decide) ?_
              obtain ⟨r12, hc13, hf⟩ := cq_e hf
              refine r_cVi (n := 2) (As := [.int x2, .int 0]) (rest := []) C (c_fX4_runEnd hj σ H.size x2 0 hc13) oC_24 rfl gv_RX4_62 (by decide +kernel) (rmD_le (by decide) (by decide)) rfl rfl (Nat.le_of_ble_eq_true rfl) dX4_scan_89 hP hS hl.1 (fun H locs hP hS => ?_)
              refine lv_istore_n (lv' := [(2, .int r12), (4, .int x2), (3, .int v3), (0, .ref (ea E 24)), (1, .int x1)]) hx hb dX4_scan_92 rfl hl (by decide) rfl (fun ls hl => ?_)
              refine lv_aload_n hx hb dX4_scan_93 rfl (lv_at hl 3 rfl) ?_
              refine r_get (k := 2) (v := .ref (ea E 26)) C hP oC_24 rfl iX4 (by decide) wm_t164 rfl rfl dX4_scan_94 ?_
              refine lv_iload_n hx hb dX4_scan_97 rfl (lv_at hl 4 rfl) ?_
              refine lv_aload_n hx hb dX4_scan_98 rfl (lv_at hl 3 rfl) ?_
              refine lv_iload hx hb dX4_scan_99 (lv_at hl 1 rfl) ?_
              refine lv_iload_n hx hb dX4_scan_101 rfl (lv_at hl 0 rfl) ?_
              obtain ⟨r14, hc15, hf⟩ := cq_e hf
              refine r_cVi (n := 2) (As := [.int x2, .int r12]) (rest := [.int x1, .ref (ea E 26)]) C (c_fX4_numberKind hj σ H.size x2 r12 hc15) oC_24 rfl gv_RX4_73 (by decide +kernel) (rmD_le (by decide) (by decide)) rfl rfl (Nat.le_of_ble_eq_true rfl) dX4_scan_102 hP hS hl.1 (fun H locs hP hS => ?_)
              obtain ⟨h17, σ16, eσ16, hf⟩ := wrK_e hf
              refine r_ast C hP hS aC_26 h17 dX4_scan_105 (fun H locs hP hS => ?_)
              rw [← eσ16] at hP
              refine lv_goto (tgt := 130) hx hb dX4_scan_106 (by decide) ?_
              exact b_fX4_scan_130 C rec4 hr4 σ16 x1 r12 x2 hf H locs ls hP hS (lv_sub hl [3, 4, 0, 1] rfl)
          · replace hf := it_f c7 hf
            refine lv_aload_n hx hb dX4_scan_54 rfl (lv_at hl 3 rfl) ?_
            refine lv_iload hx hb dX4_scan_55 (lv_at hl 1 rfl) ?_
            refine lv_iconst (v := 1) hx hb dX4_scan_57 (by decide) ?_
            obtain ⟨r18, hc19, hf⟩ := cq_e hf
            refine r_cVi (n := 2) (As := [.int x2, .int 1]) (rest := []) C (c_fX4_runEnd hj σ H.size x2 1 hc19) oC_24 rfl gv_RX4_62 (by decide +kernel) (rmD_le (by decide) (by decide)) rfl rfl (Nat.le_of_ble_eq_true rfl) dX4_scan_58 hP hS hl.1 (fun H locs hP hS => ?_)
            refine lv_istore_n (lv' := [(2, .int r18), (4, .int x2), (3, .int v3), (0, .ref (ea E 24)), (1, .int x1)]) hx hb dX4_scan_61 rfl hl (by decide) rfl (fun ls hl => ?_)
            refine lv_aload_n hx hb dX4_scan_62 rfl (lv_at hl 3 rfl) ?_
            refine r_get (k := 2) (v := .ref (ea E 26)) C hP oC_24 rfl iX4 (by decide) wm_t164 rfl rfl dX4_scan_63 ?_
            refine lv_iload_n hx hb dX4_scan_66 rfl (lv_at hl 4 rfl) ?_
            refine lv_aload_n hx hb dX4_scan_67 rfl (lv_at hl 3 rfl) ?_
            refine lv_iload hx hb dX4_scan_68 (lv_at hl 1 rfl) ?_
            refine lv_iload_n hx hb dX4_scan_70 rfl (lv_at hl 0 rfl) ?_
            obtain ⟨r20, hc21, hf⟩ := cq_e hf
            refine r_cVi (n := 2) (As := [.int x2, .int r18]) (rest := [.int x1, .ref (ea E 26)]) C (c_fX4_wordKind hj σ H.size x2 r18 hc21) oC_24 rfl gv_RX4_66 (by decide +kernel) (rmD_le (by decide) (by decide)) rfl rfl (Nat.le_of_ble_eq_true rfl) dX4_scan_71 hP hS hl.1 (fun H locs hP hS => ?_)
            obtain ⟨h23, σ22, eσ22, hf⟩ := wrK_e hf
            refine r_ast C hP hS aC_26 h23 dX4_scan_74 (fun H locs hP hS => ?_)
            rw [← eσ22] at hP
            refine lv_goto (tgt := 130) hx hb dX4_scan_75 (by decide) ?_
            exact b_fX4_scan_130 C rec4 hr4 σ22 x1 r18 x2 hf H locs ls hP hS (lv_sub hl [3, 4, 0, 1] rfl)
        · replace hf := it_t c6 hf
          refine lv_goto (tgt := 4) hx hb dX4_scan_44 (by decide) ?_
          exact hr4 σ x1 (x2 + 1) hf H locs ls hP hS (lv_sub hl [3, 4, 0] rfl)
def fX4_scan_4 : Nat → St → Int32 → Int32 → Option St
  | 0 => fun _ _ _ => none
  | n + 1 => fun σ x1 x2 => fX4_scan_4B (fX4_scan_4 n) σ x1 x2
theorem b_fX4_scan_4 {E : Ev} {l : Launch} {p : Program} {e : Env} {s : State} {m : MethodId} {args : Array Value} {below : List Frame} {meth : Method} {c : Code} (C : CX true E RX4 cX4_scan 5 none p s m args meth c) {sr : St} : ∀ (n : Nat) (σ : St) (x1 : Int32) (x2 : Int32), fX4_scan_4 n σ x1 x2 = some sr → GW true l (rmD 6) E 5 p e s m args below meth c (MQ below (QV true E sr s.heap.size) args s 0 0 (aW true E s.heap.size)) σ 4 [(0, .ref (ea E 24)), (1, .int x1), (2, .int x2)] [] := by
  intro n
  induction n with
  | zero => intro σ x1 x2 hf; have hf : (none : Option _) = some _ := hf; cases hf
  | succ n ih => intro σ x1 x2 hf; exact b_fX4_scan_4B C (fX4_scan_4 n) ih σ x1 x2 hf
def fX4_scan (σ : St) : Option St :=
fX4_scan_4 FU σ 0 0
set_option maxHeartbeats 4000000 in
theorem c_fX4_scan {E : Ev} {l : Launch} (hj : jW true E) (σ : St) (sz : Nat) {sr : St} (hf : fX4_scan σ = some sr) : Met l yX4_scan (Cond.code yX4_scan cX4_scan 5 none :: gT) (rmD 6) (va_Pc [.ref (ea E 24)] (preW true E σ sz)) (QV true E sr sz) 0 0 (aW true E sz) := by
  refine r_entry (QV true E sr) hj (by decide) [.ref (ea E 24)] (Nat.le_of_ble_eq_true rfl) (fun p e s m args below meth c C => ?_)
  intro H locs ls hP hS hl
  have hl : lv_has ls 5 [(0, .ref (ea E 24))] := hl
  obtain ⟨hx, hb, hr, hml, hown, hts, hlocks, hK, hX, hj⟩ := id C
  unfold fX4_scan at hf
  refine lv_iconst (v := 0) hx hb dX4_scan_0 (by decide) ?_
  refine lv_istore_n (lv' := [(1, .int 0), (0, .ref (ea E 24))]) hx hb dX4_scan_1 rfl hl (by decide) rfl (fun ls hl => ?_)
  refine lv_iconst (v := 0) hx hb dX4_scan_2 (by decide) ?_
  refine lv_istore_n (lv' := [(2, .int 0), (1, .int 0), (0, .ref (ea E 24))]) hx hb dX4_scan_3 rfl hl (by decide) rfl (fun ls hl => ?_)
  exact b_fX4_scan_4 C FU σ 0 0 hf H locs ls hP hS (lv_sub hl [2, 1, 0] rfl)
