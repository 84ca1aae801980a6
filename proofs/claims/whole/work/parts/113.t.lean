def fX5_leanNow_53 (b : Nat) (σ : St) (x1 : Int32) (x6 : Int32) : Option Int32 :=
(if 0 ≤ x1 then
some x6
else
some (-x6))
set_option maxHeartbeats 4000000 in
theorem b_fX5_leanNow_53 {E : Ev} {l : Launch} {p : Program} {e : Env} {s : State} {m : MethodId} {args : Array Value} {below : List Frame} {meth : Method} {c : Code} {b : Nat} (hfb : fV b) (σ : St) (C : CX true E RX5 cX5_leanNow 7 (some .int) p s m args meth c) {rr : Int32} : ∀  (x1 : Int32) (x6 : Int32), fX5_leanNow_53 b σ x1 x6 = some rr → GW true l (rmD 3) E 7 p e s m args below meth c (MQ below (QI true E rr σ s.heap.size) args s 0 0 (aW true E s.heap.size)) σ 53 [(1, .int x1), (6, .int x6)] [] := by
  intro x1 x6 hf H locs ls hP hS hl
  obtain ⟨hx, hb, hr, hml, hown, hts, hlocks, hK, hX, hj⟩ := id C
  unfold fX5_leanNow_53 at hf
  refine lv_iload_n hx hb dX5_leanNow_53 rfl (lv_at hl 0 rfl) ?_
  refine lv_if_ge (tgt := 63) hx hb dX5_leanNow_54 (by decide) (fun c1 => ?_) (fun c1 => ?_)
  · replace hf := it_t c1 hf
    refine lv_iload hx hb dX5_leanNow_63 (lv_at hl 1 rfl) ?_
    cases hf
    exact r_iret C hP hS dX5_leanNow_65
  · replace hf := it_f c1 hf
    refine lv_iload hx hb dX5_leanNow_57 (lv_at hl 1 rfl) ?_
    refine lv_ineg hx hb dX5_leanNow_59 ?_
    refine lv_goto (tgt := 65) hx hb dX5_leanNow_60 (by decide) ?_
    cases hf
    exact r_iret C hP hS dX5_leanNow_65
def fX5_leanNow_25B (b : Nat) (σ : St) (rec25 : Int32 → Int64 → Int64 → Int32 → Option Int32) (x1 : Int32) (x2 : Int64) (x4 : Int64) (x6 : Int32) : Option Int32 :=
(if 60 < x6 then
fX5_leanNow_53 b σ x1 x6
else
(cq (fX5_armTenths b σ x6) fun r2 =>
(if 0 ≤ (lg_cmp (((r2 : Int32).toInt64) * x2) x4) then
fX5_leanNow_53 b σ x1 x6
else
rec25 x1 x2 x4 (x6 + 1))))
set_option maxHeartbeats 4000000 in
theorem b_fX5_leanNow_25B {E : Ev} {l : Launch} {p : Program} {e : Env} {s : State} {m : MethodId} {args : Array Value} {below : List Frame} {meth : Method} {c : Code} {b : Nat} (hfb : fV b) (σ : St) (C : CX true E RX5 cX5_leanNow 7 (some .int) p s m args meth c) {rr : Int32} (rec25 : Int32 → Int64 → Int64 → Int32 → Option Int32) (hr25 : ∀  (x1 : Int32) (x2 : Int64) (x4 : Int64) (x6 : Int32), rec25 x1 x2 x4 x6 = some rr → GW true l (rmD 3) E 7 p e s m args below meth c (MQ below (QI true E rr σ s.heap.size) args s 0 0 (aW true E s.heap.size)) σ 25 [(0, .ref (ea E b)), (1, .int x1), (2, .long x2), (4, .long x4), (6, .int x6)] []) : ∀  (x1 : Int32) (x2 : Int64) (x4 : Int64) (x6 : Int32), fX5_leanNow_25B b σ rec25 x1 x2 x4 x6 = some rr → GW true l (rmD 3) E 7 p e s m args below meth c (MQ below (QI true E rr σ s.heap.size) args s 0 0 (aW true E s.heap.size)) σ 25 [(0, .ref (ea E b)), (1, .int x1), (2, .long x2), (4, .long x4), (6, .int x6)] [] := by
  intro x1 x2 x4 x6 hf H locs ls hP hS hl
  obtain ⟨hx, hb, hr, hml, hown, hts, hlocks, hK, hX, hj⟩ := id C
  unfold fX5_leanNow_25B at hf
  refine lv_iload hx hb dX5_leanNow_25 (lv_at hl 4 rfl) ?_
  refine lv_bipush (v := 60) hx hb dX5_leanNow_27 (by decide) ?_
  refine lv_icmp_gt (tgt := 53) hx hb dX5_leanNow_29 (by decide) (fun c1 => ?_) (fun c1 => ?_)
  · replace hf := it_t c1 hf
    exact b_fX5_leanNow_53 hfb σ C x1 x6 hf H locs ls hP hS (lv_sub hl [1, 4] rfl)
  · replace hf := it_f c1 hf
    refine lv_aload_n hx hb dX5_leanNow_32 rfl (lv_at hl 0 rfl) ?_
    refine lv_iload hx hb dX5_leanNow_33 (lv_at hl 4 rfl) ?_
    obtain ⟨r2, hc3, hf⟩ := cq_e hf
    refine r_cVi (n := 1) (As := [.int x6]) (rest := []) C (c_fX5_armTenths hfb hj σ H.size x6 hc3) (oV hfb) rfl gv_RX5_106 (by decide +kernel) ⟨rfl, rfl, by decide, by decide⟩ rfl rfl (Nat.le_of_ble_eq_true rfl) dX5_leanNow_35 hP hS hl.1 (fun H locs hP hS => ?_)
    refine lv_i2l (v := (r2 : Int32).toInt64) hx hb dX5_leanNow_38 rfl ?_
    refine lv_lload_n hx hb dX5_leanNow_39 rfl (lv_at hl 2 rfl) ?_
    refine lv_lmul hx hb dX5_leanNow_40 ?_
    refine lv_lload hx hb dX5_leanNow_41 (lv_at hl 3 rfl) ?_
    refine W.lcmp hx hb dX5_leanNow_43 ?_
    refine lv_if_ge (tgt := 53) hx hb dX5_leanNow_44 (by decide) (fun c4 => ?_) (fun c4 => ?_)
    · replace hf := it_t c4 hf
      exact b_fX5_leanNow_53 hfb σ C x1 x6 hf H locs ls hP hS (lv_sub hl [1, 4] rfl)
    · replace hf := it_f c4 hf
      refine lv_iinc (v := (x6 + 1)) (lv' := [(6, .int (x6 + 1)), (0, .ref (ea E b)), (1, .int x1), (2, .long x2), (4, .long x4)]) hx hb dX5_leanNow_47 hl (k := 4) rfl rfl (by decide) rfl (fun ls hl => ?_)
      refine lv_goto (tgt := 25) hx hb dX5_leanNow_50 (by decide) ?_
      exact hr25 x1 x2 x4 (x6 + 1) hf H locs ls hP hS (lv_sub hl [1, 2, 3, 4, 0] rfl)
def fX5_leanNow_25 (b : Nat) (σ : St) : Nat → Int32 → Int64 → Int64 → Int32 → Option Int32
  | 0 => fun _ _ _ _ => none
  | n + 1 => fun x1 x2 x4 x6 => fX5_leanNow_25B b σ (fX5_leanNow_25 b σ n) x1 x2 x4 x6
theorem b_fX5_leanNow_25 {E : Ev} {l : Launch} {p : Program} {e : Env} {s : State} {m : MethodId} {args : Array Value} {below : List Frame} {meth : Method} {c : Code} {b : Nat} (hfb : fV b) (σ : St) (C : CX true E RX5 cX5_leanNow 7 (some .int) p s m args meth c) {rr : Int32} : ∀ (n : Nat) (x1 : Int32) (x2 : Int64) (x4 : Int64) (x6 : Int32), fX5_leanNow_25 b σ n x1 x2 x4 x6 = some rr → GW true l (rmD 3) E 7 p e s m args below meth c (MQ below (QI true E rr σ s.heap.size) args s 0 0 (aW true E s.heap.size)) σ 25 [(0, .ref (ea E b)), (1, .int x1), (2, .long x2), (4, .long x4), (6, .int x6)] [] := by
  intro n
  induction n with
  | zero => intro x1 x2 x4 x6 hf; have hf : (none : Option _) = some _ := hf; cases hf
  | succ n ih => intro x1 x2 x4 x6 hf; exact b_fX5_leanNow_25B hfb σ C (fX5_leanNow_25 b σ n) ih x1 x2 x4 x6 hf
def fX5_leanNow (b : Nat) (σ : St) : Option Int32 :=
(cq (fX5_moment b σ) fun r1 =>
(cq (fX5_weight b σ) fun r3 =>
(nml (200 * (((if 0 ≤ r1 then r1 else 0 - r1) : Int32).toInt64)) fun v5 =>
fX5_leanNow_25 b σ FU r1 ((r3 : Int32).toInt64) v5 0)))
set_option maxHeartbeats 4000000 in
theorem c_fX5_leanNow {E : Ev} {l : Launch} {b : Nat} (hfb : fV b) (hj : jW true E) (σ : St) (sz : Nat) {rr : Int32} (hf : fX5_leanNow b σ = some rr) : Met l yX5_leanNow (Cond.code yX5_leanNow cX5_leanNow 7 (some .int) :: gT) (rmD 3) (va_Pc [.ref (ea E b)] (preW true E σ sz)) (QI true E rr σ sz) 0 0 (aW true E sz) := by
  refine r_entry (QI true E rr σ) hj (by decide) [.ref (ea E b)] (Nat.le_of_ble_eq_true rfl) (fun p e s m args below meth c C => ?_)
  intro H locs ls hP hS hl
  have hl : lv_has ls 7 [(0, .ref (ea E b))] := hl
  obtain ⟨hx, hb, hr, hml, hown, hts, hlocks, hK, hX, hj⟩ := id C
  unfold fX5_leanNow at hf
  refine lv_aload_n hx hb dX5_leanNow_0 rfl (lv_at hl 0 rfl) ?_
  obtain ⟨r1, hc2, hf⟩ := cq_e hf
  refine r_cVi (n := 0) (As := []) (rest := []) C (c_fX5_moment hfb hj σ H.size hc2) (oV hfb) rfl gv_RX5_98 (by decide +kernel) ⟨rfl, rfl, by decide, by decide⟩ rfl rfl (Nat.le_of_ble_eq_true rfl) dX5_leanNow_1 hP hS hl.1 (fun H locs hP hS => ?_)
  refine lv_istore_n (lv' := [(1, .int r1), (0, .ref (ea E b))]) hx hb dX5_leanNow_4 rfl hl (by decide) rfl (fun ls hl => ?_)
  refine lv_aload_n hx hb dX5_leanNow_5 rfl (lv_at hl 1 rfl) ?_
  obtain ⟨r3, hc4, hf⟩ := cq_e hf
  refine r_cVi (n := 0) (As := []) (rest := []) C (c_fX5_weight hfb hj σ H.size hc4) (oV hfb) rfl gv_RX5_101 (by decide +kernel) ⟨rfl, rfl, by decide, by decide⟩ rfl rfl (Nat.le_of_ble_eq_true rfl) dX5_leanNow_6 hP hS hl.1 (fun H locs hP hS => ?_)
  refine lv_i2l (v := (r3 : Int32).toInt64) hx hb dX5_leanNow_9 rfl ?_
  refine lv_lstore_n (lv' := [(2, .long ((r3 : Int32).toInt64)), (1, .int r1), (0, .ref (ea E b))]) hx hb dX5_leanNow_10 rfl hl (by decide) rfl (fun ls hl => ?_)
  refine lv_ldc2 (v := 200) hx hb hown (hts _ wm_t740) dX5_leanNow_11 ?_
  refine lv_iload_n hx hb dX5_leanNow_14 rfl (lv_at hl 1 rfl) ?_
  refine va_mabs hx hb (hml.trans hl.1.symm) hown (hts _ wm_t741) (hts _ wm_t742) (hts _ wm_t4) (hts _ wm_t743) (by decide) (Nat.le_of_ble_eq_true rfl) (Nat.zero_le _) (Nat.zero_le _) dX5_leanNow_15 ?_
  refine lv_i2l (v := ((if 0 ≤ r1 then r1 else 0 - r1) : Int32).toInt64) hx hb dX5_leanNow_18 rfl ?_
  refine lv_lmul hx hb dX5_leanNow_19 ?_
  refine lv_topl (fun v5 ev5 => ?_)
  replace hf := nml_i ev5 hf
  refine lv_lstore (lv' := [(4, .long v5), (2, .long ((r3 : Int32).toInt64)), (1, .int r1), (0, .ref (ea E b))]) hx hb dX5_leanNow_20 hl (by decide) rfl (fun ls hl => ?_)
  refine lv_iconst (v := 0) hx hb dX5_leanNow_22 (by decide) ?_
  refine lv_istore (lv' := [(6, .int 0), (4, .long v5), (2, .long ((r3 : Int32).toInt64)), (1, .int r1), (0, .ref (ea E b))]) hx hb dX5_leanNow_23 hl (by decide) rfl (fun ls hl => ?_)
  exact b_fX5_leanNow_25 hfb σ C FU r1 ((r3 : Int32).toInt64) v5 0 hf H locs ls hP hS (lv_sub hl [4, 3, 2, 1, 0] rfl)
def fX6_add_91 (σ : St) (y0 : Int32) (y1 : Int32) (y2 : Int32) : Option (Int32 × St) :=
(wrK 288 σ 43 y2 (y1 + y0) fun σ1 =>
(nmS (st_put σ1 41 0 ((σ1 41 0) + 1)) fun σ3 =>
some ((σ3 41 0), σ3)))
set_option maxHeartbeats 4000000 in
theorem b_fX6_add_91 {E : Ev} {l : Launch} {p : Program} {e : Env} {s : State} {m : MethodId} {args : Array Value} {below : List Frame} {meth : Method} {c : Code} (C : CX true E RX6 cX6_add 7 (some .int) p s m args meth c) {rr : Int32} {sr : St} : ∀ (σ : St) (y0 : Int32) (y1 : Int32) (y2 : Int32), fX6_add_91 σ y0 y1 y2 = some (rr, sr) → GW true l (rmD 2) E 7 p e s m args below meth c (MQ below (QI true E rr sr s.heap.size) args s 0 0 (aW true E s.heap.size)) σ 91 [(0, .ref (ea E 41))] [.int y0, .int y1, .int y2, .ref (ea E 43)] := by
  intro σ y0 y1 y2 hf H locs ls hP hS hl
  obtain ⟨hx, hb, hr, hml, hown, hts, hlocks, hK, hX, hj⟩ := id C
  unfold fX6_add_91 at hf
  refine lv_iadd hx hb dX6_add_91 ?_
  obtain ⟨h2, σ1, eσ1, hf⟩ := wrK_e hf
  refine r_ast C hP hS aC_43 h2 dX6_add_92 (fun H locs hP hS => ?_)
  rw [← eσ1] at hP
  refine lv_aload_n hx hb dX6_add_93 rfl (lv_at hl 0 rfl) ?_
  refine lv_dup hx hb dX6_add_94 rfl ?_
  refine r_get (k := 0) (v := .int (σ1 41 0)) C hP oC_41 rfl iX6 (by decide) wm_t284 rfl rfl dX6_add_95 ?_
  refine lv_iconst (v := 1) hx hb dX6_add_98 (by decide) ?_
  refine lv_iadd hx hb dX6_add_99 ?_
  refine r_put (k := 0) (x := ((σ1 41 0) + 1)) C hP hS tyX6 tyX6_ok nmX6 oC_41 rfl iX6 (by decide) wm_t284 rfl rfl sC_41_0 rfl rfl (Nat.le_of_ble_eq_true rfl) dX6_add_100 (fun H locs hP hS => ?_)
  obtain ⟨σ3, eσ3, hf⟩ := nmS_e hf
  rw [← eσ3] at hP
  refine lv_aload_n hx hb dX6_add_103 rfl (lv_at hl 0 rfl) ?_
  refine r_get (k := 0) (v := .int (σ3 41 0)) C hP oC_41 rfl iX6 (by decide) wm_t284 rfl rfl dX6_add_104 ?_
  cases hf
  exact r_iret C hP hS dX6_add_107
def fX6_add_31 (σ : St) (x1 : Int32) (x2 : Int32) (x3 : Int32) (x4 : Int32) (y0 : Int32) : Option (Int32 × St) :=
(if y0 = 0 then
some ((-1), σ)
else
(if (σ 41 0) < 200 then
(rdK 288 (σ 42) ((((x1 * 12) + x2) * 3) + x3) fun v3 =>
(wrK 288 σ 42 ((((x1 * 12) + x2) * 3) + x3) (v3 + 1) fun σ5 =>
(rdK 288 (σ5 43) ((((x1 * 12) + x2) * 3) + x3) fun v7 =>
(if x4 = 0 then
fX6_add_91 σ5 0 v7 ((((x1 * 12) + x2) * 3) + x3)
else
fX6_add_91 σ5 1 v7 ((((x1 * 12) + x2) * 3) + x3)))))
else
some ((-1), σ)))
set_option maxHeartbeats 4000000 in
theorem b_fX6_add_31 {E : Ev} {l : Launch} {p : Program} {e : Env} {s : State} {m : MethodId} {args : Array Value} {below : List Frame} {meth : Method} {c : Code} (C : CX true E RX6 cX6_add 7 (some .int) p s m args meth c) {rr : Int32} {sr : St} : ∀ (σ : St) (x1 : Int32) (x2 : Int32) (x3 : Int32) (x4 : Int32) (y0 : Int32), fX6_add_31 σ x1 x2 x3 x4 y0 = some (rr, sr) → GW true l (rmD 2) E 7 p e s m args below meth c (MQ below (QI true E rr sr s.heap.size) args s 0 0 (aW true E s.heap.size)) σ 31 [(0, .ref (ea E 41)), (1, .int x1), (2, .int x2), (3, .int x3), (4, .int x4)] [.int y0] := by
  intro σ x1 x2 x3 x4 y0 hf H locs ls hP hS hl
  obtain ⟨hx, hb, hr, hml, hown, hts, hlocks, hK, hX, hj⟩ := id C
  unfold fX6_add_31 at hf
  refine lv_istore (lv' := [(5, .int y0), (0, .ref (ea E 41)), (1, .int x1), (2, .int x2), (3, .int x3), (4, .int x4)]) hx hb dX6_add_31 hl (by decide) rfl (fun ls hl => ?_)
  refine lv_iload hx hb dX6_add_33 (lv_at hl 0 rfl) ?_
  refine lv_if_eq (tgt := 48) hx hb dX6_add_35 (by decide) (fun c1 => ?_) (fun c1 => ?_)
  · replace hf := it_t c1 hf
    refine lv_iconst (v := (-1)) hx hb dX6_add_48 (by decide) ?_
    cases hf
    exact r_iret C hP hS dX6_add_49
  · replace hf := it_f c1 hf
    refine lv_aload_n hx hb dX6_add_38 rfl (lv_at hl 1 rfl) ?_
    refine r_get (k := 0) (v := .int (σ 41 0)) C hP oC_41 rfl iX6 (by decide) wm_t284 rfl rfl dX6_add_39 ?_
    refine lv_sipush (v := 200) hx hb dX6_add_42 (by decide) ?_
    refine lv_icmp_lt (tgt := 50) hx hb dX6_add_45 (by decide) (fun c2 => ?_) (fun c2 => ?_)
    · replace hf := it_t c2 hf
      refine lv_iload_n hx hb dX6_add_50 rfl (lv_at hl 2 rfl) ?_
      refine lv_bipush (v := 12) hx hb dX6_add_51 (by decide) ?_
      refine lv_imul hx hb dX6_add_53 ?_
      refine lv_iload_n hx hb dX6_add_54 rfl (lv_at hl 3 rfl) ?_
      refine lv_iadd hx hb dX6_add_55 ?_
      refine lv_iconst (v := 3) hx hb dX6_add_56 (by decide) ?_
      refine lv_imul hx hb dX6_add_57 ?_
      refine lv_iload_n hx hb dX6_add_58 rfl (lv_at hl 4 rfl) ?_
      refine lv_iadd hx hb dX6_add_59 ?_
      refine lv_istore (lv' := [(6, .int ((((x1 * 12) + x2) * 3) + x3)), (5, .int y0), (0, .ref (ea E 41)), (1, .int x1), (2, .int x2), (3, .int x3), (4, .int x4)]) hx hb dX6_add_60 hl (by decide) rfl (fun ls hl => ?_)
      refine lv_aload_n hx hb dX6_add_62 rfl (lv_at hl 2 rfl) ?_
      refine r_get (k := 1) (v := .ref (ea E 42)) C hP oC_41 rfl iX6 (by decide) wm_t285 rfl rfl dX6_add_63 ?_
      refine lv_iload hx hb dX6_add_66 (lv_at hl 0 rfl) ?_
      refine lv_dup2_11 hx hb dX6_add_68 rfl rfl ?_
      have h4 := (rdK_e hf).1
      refine r_ald C hP aC_42 h4 dX6_add_69 ?_
      refine lv_topi (fun v3 ev3 => ?_)
      replace hf := rdK_n ev3 hf
      refine lv_iconst (v := 1) hx hb dX6_add_70 (by decide) ?_
      refine lv_iadd hx hb dX6_add_71 ?_
      obtain ⟨h6, σ5, eσ5, hf⟩ := wrK_e hf
      refine r_ast C hP hS aC_42 h6 dX6_add_72 (fun H locs hP hS => ?_)
      rw [← eσ5] at hP
      refine lv_aload_n hx hb dX6_add_73 rfl (lv_at hl 2 rfl) ?_
      refine r_get (k := 2) (v := .ref (ea E 43)) C hP oC_41 rfl iX6 (by decide) wm_t286 rfl rfl dX6_add_74 ?_
      refine lv_iload hx hb dX6_add_77 (lv_at hl 0 rfl) ?_
      refine lv_dup2_11 hx hb dX6_add_79 rfl rfl ?_
      have h8 := (rdK_e hf).1
      refine r_ald C hP aC_43 h8 dX6_add_80 ?_
      refine lv_topi (fun v7 ev7 => ?_)
      replace hf := rdK_n ev7 hf
      refine lv_iload hx hb dX6_add_81 (lv_at hl 6 rfl) ?_
      refine lv_if_eq (tgt := 90) hx hb dX6_add_83 (by decide) (fun c9 => ?_) (fun c9 => ?_)
      · replace hf := it_t c9 hf
        refine lv_iconst (v := 0) hx hb dX6_add_90 (by decide) ?_
        exact b_fX6_add_91 C σ5 0 v7 ((((x1 * 12) + x2) * 3) + x3) hf H locs ls hP hS (lv_sub hl [2] rfl)
      · replace hf := it_f c9 hf
        refine lv_iconst (v := 1) hx hb dX6_add_86 (by decide) ?_
        refine lv_goto (tgt := 91) hx hb dX6_add_87 (by decide) ?_
        exact b_fX6_add_91 C σ5 1 v7 ((((x1 * 12) + x2) * 3) + x3) hf H locs ls hP hS (lv_sub hl [2] rfl)
    · replace hf := it_f c2 hf
      refine lv_iconst (v := (-1)) hx hb dX6_add_48 (by decide) ?_
      cases hf
      exact r_iret C hP hS dX6_add_49
def fX6_add_30 (σ : St) (x1 : Int32) (x2 : Int32) (x3 : Int32) (x4 : Int32) : Option (Int32 × St) :=
fX6_add_31 σ x1 x2 x3 x4 0
set_option maxHeartbeats 4000000 in
theorem b_fX6_add_30 {E : Ev} {l : Launch} {p : Program} {e : Env} {s : State} {m : MethodId} {args : Array Value} {below : List Frame} {meth : Method} {c : Code} (C : CX true E RX6 cX6_add 7 (some .int) p s m args meth c) {rr : Int32} {sr : St} : ∀ (σ : St) (x1 : Int32) (x2 : Int32) (x3 : Int32) (x4 : Int32), fX6_add_30 σ x1 x2 x3 x4 = some (rr, sr) → GW true l (rmD 2) E 7 p e s m args below meth c (MQ below (QI true E rr sr s.heap.size) args s 0 0 (aW true E s.heap.size)) σ 30 [(0, .ref (ea E 41)), (1, .int x1), (2, .int x2), (3, .int x3), (4, .int x4)] [] := by
  intro σ x1 x2 x3 x4 hf H locs ls hP hS hl
  obtain ⟨hx, hb, hr, hml, hown, hts, hlocks, hK, hX, hj⟩ := id C
  unfold fX6_add_30 at hf
  refine lv_iconst (v := 0) hx hb dX6_add_30 (by decide) ?_
  exact b_fX6_add_31 C σ x1 x2 x3 x4 0 hf H locs ls hP hS (lv_sub hl [0, 1, 2, 3, 4] rfl)
def fX6_add (σ : St) (a0 : Int32) (a1 : Int32) (a2 : Int32) (a3 : Int32) : Option (Int32 × St) :=
(if (fX10_within a0 8) = 0 then
fX6_add_30 σ a0 a1 a2 a3
else
(if (fX10_within a1 12) = 0 then
fX6_add_30 σ a0 a1 a2 a3
else
(if (fX10_within a2 3) = 0 then
fX6_add_30 σ a0 a1 a2 a3
else
fX6_add_31 σ a0 a1 a2 a3 1)))
set_option maxHeartbeats 4000000 in
theorem c_fX6_add {E : Ev} {l : Launch} (hj : jW true E) (σ : St) (sz : Nat) (a0 : Int32) (a1 : Int32) (a2 : Int32) (a3 : Int32) {rr : Int32} {sr : St} (hf : fX6_add σ a0 a1 a2 a3 = some (rr, sr)) : Met l yX6_add (Cond.code yX6_add cX6_add 7 (some .int) :: gT) (rmD 2) (va_Pc [.ref (ea E 41), .int a0, .int a1, .int a2, .int a3] (preW true E σ sz)) (QI true E rr sr sz) 0 0 (aW true E sz) := by
  refine r_entry (QI true E rr sr) hj (by decide) [.ref (ea E 41), .int a0, .int a1, .int a2, .int a3] (Nat.le_of_ble_eq_true rfl) (fun p e s m args below meth c C => ?_)
  intro H locs ls hP hS hl
  have hl : lv_has ls 7 [(0, .ref (ea E 41)), (1, .int a0), (2, .int a1), (3, .int a2), (4, .int a3)] := hl
  obtain ⟨hx, hb, hr, hml, hown, hts, hlocks, hK, hX, hj⟩ := id C
  unfold fX6_add at hf
  refine lv_iload_n hx hb dX6_add_0 rfl (lv_at hl 1 rfl) ?_
  refine lv_bipush (v := 8) hx hb dX6_add_1 (by decide) ?_
  refine r_cNi (n := 2) (As := [.int a0, .int 8]) (rest := []) (host := "SoupCargo") C (c_fX10_within hj σ H.size a0 8) (by decide +kernel) wm_t343 wm_t1 wm_t342 (by decide +kernel) ⟨rfl, rfl, by decide, by decide⟩ rfl rfl (Nat.le_of_ble_eq_true rfl) dX6_add_3 hP hS hl.1 (fun H locs hP hS => ?_)
  refine lv_if_eq (tgt := 30) hx hb dX6_add_6 (by decide) (fun c1 => ?_) (fun c1 => ?_)
  · replace hf := it_t c1 hf
    exact b_fX6_add_30 C σ a0 a1 a2 a3 hf H locs ls hP hS (lv_sub hl [0, 1, 2, 3, 4] rfl)
  · replace hf := it_f c1 hf
    refine lv_iload_n hx hb dX6_add_9 rfl (lv_at hl 2 rfl) ?_
    refine lv_bipush (v := 12) hx hb dX6_add_10 (by decide) ?_
    refine r_cNi (n := 2) (As := [.int a1, .int 12]) (rest := []) (host := "SoupCargo") C (c_fX10_within hj σ H.size a1 12) (by decide +kernel) wm_t343 wm_t1 wm_t342 (by decide +kernel) ⟨rfl, rfl, by decide, by decide⟩ rfl rfl (Nat.le_of_ble_eq_true rfl) dX6_add_12 hP hS hl.1 (fun H locs hP hS => ?_)
    refine lv_if_eq (tgt := 30) hx hb dX6_add_15 (by decide) (fun c2 => ?_) (fun c2 => ?_)
    · replace hf := it_t c2 hf
      exact b_fX6_add_30 C σ a0 a1 a2 a3 hf H locs ls hP hS (lv_sub hl [0, 1, 2, 3, 4] rfl)
    · replace hf := it_f c2 hf
      refine lv_iload_n hx hb dX6_add_18 rfl (lv_at hl 3 rfl) ?_
      refine lv_iconst (v := 3) hx hb dX6_add_19 (by decide) ?_
      refine r_cNi (n := 2) (As := [.int a2, .int 3]) (rest := []) (host := "SoupCargo") C (c_fX10_within hj σ H.size a2 3) (by decide +kernel) wm_t343 wm_t1 wm_t342 (by decide +kernel) ⟨rfl, rfl, by decide, by decide⟩ rfl rfl (Nat.le_of_ble_eq_true rfl) dX6_add_20 hP hS hl.1 (fun H locs hP hS => ?_)
      refine lv_if_eq (tgt := 30) hx hb dX6_add_23 (by decide) (fun c3 => ?_) (fun c3 => ?_)
      · replace hf := it_t c3 hf
        exact b_fX6_add_30 C σ a0 a1 a2 a3 hf H locs ls hP hS (lv_sub hl [0, 1, 2, 3, 4] rfl)
      · replace hf := it_f c3 hf
        refine lv_iconst (v := 1) hx hb dX6_add_26 (by decide) ?_
        refine lv_goto (tgt := 31) hx hb dX6_add_27 (by decide) ?_
        exact b_fX6_add_31 C σ a0 a1 a2 a3 1 hf H locs ls hP hS (lv_sub hl [0, 1, 2, 3, 4] rfl)
def fX6_countOf_92 (σ : St) (rec40 : Int32 → Int32 → Int32 → Int32 → Int32 → Int32 → Option Int32) (x1 : Int32) (x2 : Int32) (x3 : Int32) (x4 : Int32) (x5 : Int32) (x6 : Int32) (y0 : Int32) : Option Int32 :=
(if y0 = 0 then
rec40 x1 x2 x3 x4 x5 (x6 + 1)
else
(if x4 = 0 then
(rdK 288 (σ 42) x6 fun v3 =>
rec40 x1 x2 x3 x4 (x5 + v3) (x6 + 1))
else
(rdK 288 (σ 43) x6 fun v5 =>
rec40 x1 x2 x3 x4 (x5 + v5) (x6 + 1))))
set_option maxHeartbeats 4000000 in
theorem b_fX6_countOf_92 {E : Ev} {l : Launch} {p : Program} {e : Env} {s : State} {m : MethodId} {args : Array Value} {below : List Frame} {meth : Method} {c : Code} (σ : St) (C : CX true E RX6 cX6_countOf 8 (some .int) p s m args meth c) {rr : Int32} (rec40 : Int32 → Int32 → Int32 → Int32 → Int32 → Int32 → Option Int32) (hr40 : ∀  (x1 : Int32) (x2 : Int32) (x3 : Int32) (x4 : Int32) (x5 : Int32) (x6 : Int32), rec40 x1 x2 x3 x4 x5 x6 = some rr → GW true l (rmD 2) E 8 p e s m args below meth c (MQ below (QI true E rr σ s.heap.size) args s 0 0 (aW true E s.heap.size)) σ 40 [(0, .ref (ea E 41)), (1, .int x1), (2, .int x2), (3, .int x3), (4, .int x4), (5, .int x5), (6, .int x6)] []) : ∀  (x1 : Int32) (x2 : Int32) (x3 : Int32) (x4 : Int32) (x5 : Int32) (x6 : Int32) (y0 : Int32), fX6_countOf_92 σ rec40 x1 x2 x3 x4 x5 x6 y0 = some rr → GW true l (rmD 2) E 8 p e s m args below meth c (MQ below (QI true E rr σ s.heap.size) args s 0 0 (aW true E s.heap.size)) σ 92 [(0, .ref (ea E 41)), (1, .int x1), (2, .int x2), (3, .int x3), (4, .int x4), (5, .int x5), (6, .int x6)] [.int y0] := by
  intro x1 x2 x3 x4 x5 x6 y0 hf H locs ls hP hS hl
  obtain ⟨hx, hb, hr, hml, hown, hts, hlocks, hK, hX, hj⟩ := id C
  unfold fX6_countOf_92 at hf
  refine lv_istore (lv' := [(7, .int y0), (0, .ref (ea E 41)), (1, .int x1), (2, .int x2), (3, .int x3), (4, .int x4), (5, .int x5), (6, .int x6)]) hx hb dX6_countOf_92 hl (by decide) rfl (fun ls hl => ?_)
  refine lv_iload hx hb dX6_countOf_94 (lv_at hl 0 rfl) ?_
  refine lv_if_eq (tgt := 126) hx hb dX6_countOf_96 (by decide) (fun c1 => ?_) (fun c1 => ?_)
  · replace hf := it_t c1 hf
    refine lv_iinc (v := (x6 + 1)) (lv' := [(6, .int (x6 + 1)), (7, .int y0), (0, .ref (ea E 41)), (1, .int x1), (2, .int x2), (3, .int x3), (4, .int x4), (5, .int x5)]) hx hb dX6_countOf_126 hl (k := 7) rfl rfl (by decide) rfl (fun ls hl => ?_)
    refine lv_goto (tgt := 40) hx hb dX6_countOf_129 (by decide) ?_
    exact hr40 x1 x2 x3 x4 x5 (x6 + 1) hf H locs ls hP hS (lv_sub hl [2, 3, 4, 5, 6, 7, 0] rfl)
  · replace hf := it_f c1 hf
    refine lv_iload hx hb dX6_countOf_99 (lv_at hl 6 rfl) ?_
    refine lv_iload hx hb dX6_countOf_101 (lv_at hl 5 rfl) ?_
    refine lv_if_eq (tgt := 116) hx hb dX6_countOf_103 (by decide) (fun c2 => ?_) (fun c2 => ?_)
    · replace hf := it_t c2 hf
      refine lv_aload_n hx hb dX6_countOf_116 rfl (lv_at hl 1 rfl) ?_
      refine r_get (k := 1) (v := .ref (ea E 42)) C hP oC_41 rfl iX6 (by decide) wm_t285 rfl rfl dX6_countOf_117 ?_
      refine lv_iload hx hb dX6_countOf_120 (lv_at hl 7 rfl) ?_
      have h4 := (rdK_e hf).1
      refine r_ald C hP aC_42 h4 dX6_countOf_122 ?_
      refine lv_topi (fun v3 ev3 => ?_)
      replace hf := rdK_n ev3 hf
      refine lv_iadd hx hb dX6_countOf_123 ?_
      refine lv_istore (lv' := [(5, .int (x5 + v3)), (7, .int y0), (0, .ref (ea E 41)), (1, .int x1), (2, .int x2), (3, .int x3), (4, .int x4), (6, .int x6)]) hx hb dX6_countOf_124 hl (by decide) rfl (fun ls hl => ?_)
      refine lv_iinc (v := (x6 + 1)) (lv' := [(6, .int (x6 + 1)), (5, .int (x5 + v3)), (7, .int y0), (0, .ref (ea E 41)), (1, .int x1), (2, .int x2), (3, .int x3), (4, .int x4)]) hx hb dX6_countOf_126 hl (k := 7) rfl rfl (by decide) rfl (fun ls hl => ?_)
      refine lv_goto (tgt := 40) hx hb dX6_countOf_129 (by decide) ?_
      exact hr40 x1 x2 x3 x4 (x5 + v3) (x6 + 1) hf H locs ls hP hS (lv_sub hl [3, 4, 5, 6, 7, 1, 0] rfl)
    · replace hf := it_f c2 hf
      refine lv_aload_n hx hb dX6_countOf_106 rfl (lv_at hl 1 rfl) ?_
      refine r_get (k := 2) (v := .ref (ea E 43)) C hP oC_41 rfl iX6 (by decide) wm_t286 rfl rfl dX6_countOf_107 ?_
      refine lv_iload hx hb dX6_countOf_110 (lv_at hl 7 rfl) ?_
      have h6 := (rdK_e hf).1
      refine r_ald C hP aC_43 h6 dX6_countOf_112 ?_
      refine lv_topi (fun v5 ev5 => ?_)
      replace hf := rdK_n ev5 hf
      refine lv_goto (tgt := 123) hx hb dX6_countOf_113 (by decide) ?_
      refine lv_iadd hx hb dX6_countOf_123 ?_
      refine lv_istore (lv' := [(5, .int (x5 + v5)), (7, .int y0), (0, .ref (ea E 41)), (1, .int x1), (2, .int x2), (3, .int x3), (4, .int x4), (6, .int x6)]) hx hb dX6_countOf_124 hl (by decide) rfl (fun ls hl => ?_)
      refine lv_iinc (v := (x6 + 1)) (lv' := [(6, .int (x6 + 1)), (5, .int (x5 + v5)), (7, .int y0), (0, .ref (ea E 41)), (1, .int x1), (2, .int x2), (3, .int x3), (4, .int x4)]) hx hb dX6_countOf_126 hl (k := 7) rfl rfl (by decide) rfl (fun ls hl => ?_)
      refine lv_goto (tgt := 40) hx hb dX6_countOf_129 (by decide) ?_
      exact hr40 x1 x2 x3 x4 (x5 + v5) (x6 + 1) hf H locs ls hP hS (lv_sub hl [3, 4, 5, 6, 7, 1, 0] rfl)
def fX6_countOf_91 (σ : St) (rec40 : Int32 → Int32 → Int32 → Int32 → Int32 → Int32 → Option Int32) (x1 : Int32) (x2 : Int32) (x3 : Int32) (x4 : Int32) (x5 : Int32) (x6 : Int32) : Option Int32 :=
fX6_countOf_92 σ rec40 x1 x2 x3 x4 x5 x6 0
set_option maxHeartbeats 4000000 in
theorem b_fX6_countOf_91 {E : Ev} {l : Launch} {p : Program} {e : Env} {s : State} {m : MethodId} {args : Array Value} {below : List Frame} {meth : Method} {c : Code} (σ : St) (C : CX true E RX6 cX6_countOf 8 (some .int) p s m args meth c) {rr : Int32} (rec40 : Int32 → Int32 → Int32 → Int32 → Int32 → Int32 → Option Int32) (hr40 : ∀  (x1 : Int32) (x2 : Int32) (x3 : Int32) (x4 : Int32) (x5 : Int32) (x6 : Int32), rec40 x1 x2 x3 x4 x5 x6 = some rr → GW true l (rmD 2) E 8 p e s m args below meth c (MQ below (QI true E rr σ s.heap.size) args s 0 0 (aW true E s.heap.size)) σ 40 [(0, .ref (ea E 41)), (1, .int x1), (2, .int x2), (3, .int x3), (4, .int x4), (5, .int x5), (6, .int x6)] []) : ∀  (x1 : Int32) (x2 : Int32) (x3 : Int32) (x4 : Int32) (x5 : Int32) (x6 : Int32), fX6_countOf_91 σ rec40 x1 x2 x3 x4 x5 x6 = some rr → GW true l (rmD 2) E 8 p e s m args below meth c (MQ below (QI true E rr σ s.heap.size) args s 0 0 (aW true E s.heap.size)) σ 91 [(0, .ref (ea E 41)), (1, .int x1), (2, .int x2), (3, .int x3), (4, .int x4), (5, .int x5), (6, .int x6)] [] := by
  intro x1 x2 x3 x4 x5 x6 hf H locs ls hP hS hl
  obtain ⟨hx, hb, hr, hml, hown, hts, hlocks, hK, hX, hj⟩ := id C
  unfold fX6_countOf_91 at hf
  refine lv_iconst (v := 0) hx hb dX6_countOf_91 (by decide) ?_
  exact b_fX6_countOf_92 σ C rec40 hr40 x1 x2 x3 x4 x5 x6 0 hf H locs ls hP hS (lv_sub hl [0, 1, 2, 3, 4, 5, 6] rfl)
def fX6_countOf_40B (σ : St) (rec40 : Int32 → Int32 → Int32 → Int32 → Int32 → Int32 → Option Int32) (x1 : Int32) (x2 : Int32) (x3 : Int32) (x4 : Int32) (x5 : Int32) (x6 : Int32) : Option Int32 :=
(if 288 ≤ x6 then
some x5
else
(if (fX6_fits x1 (x6 / 36)) = 0 then
fX6_countOf_91 σ rec40 x1 x2 x3 x4 x5 x6
else
(if (fX6_fits x2 ((x6 / 3) - (x6 / 3) / 12 * 12)) = 0 then
fX6_countOf_91 σ rec40 x1 x2 x3 x4 x5 x6
else
(if (fX6_fits x3 (x6 - x6 / 3 * 3)) = 0 then
fX6_countOf_91 σ rec40 x1 x2 x3 x4 x5 x6
else
fX6_countOf_92 σ rec40 x1 x2 x3 x4 x5 x6 1))))
set_option maxHeartbeats 4000000 in
theorem b_fX6_countOf_40B {E : Ev} {l : Launch} {p : Program} {e : Env} {s : State} {m : MethodId} {args : Array Value} {below : List Frame} {meth : Method} {c : Code} (σ : St) (C : CX true E RX6 cX6_countOf 8 (some .int) p s m args meth c) {rr : Int32} (rec40 : Int32 → Int32 → Int32 → Int32 → Int32 → Int32 → Option Int32) (hr40 : ∀  (x1 : Int32) (x2 : Int32) (x3 : Int32) (x4 : Int32) (x5 : Int32) (x6 : Int32), rec40 x1 x2 x3 x4 x5 x6 = some rr → GW true l (rmD 2) E 8 p e s m args below meth c (MQ below (QI true E rr σ s.heap.size) args s 0 0 (aW true E s.heap.size)) σ 40 [(0, .ref (ea E 41)), (1, .int x1), (2, .int x2), (3, .int x3), (4, .int x4), (5, .int x5), (6, .int x6)] []) : ∀  (x1 : Int32) (x2 : Int32) (x3 : Int32) (x4 : Int32) (x5 : Int32) (x6 : Int32), fX6_countOf_40B σ rec40 x1 x2 x3 x4 x5 x6 = some rr → GW true l (rmD 2) E 8 p e s m args below meth c (MQ below (QI true E rr σ s.heap.size) args s 0 0 (aW true E s.heap.size)) σ 40 [(0, .ref (ea E 41)), (1, .int x1), (2, .int x2), (3, .int x3), (4, .int x4), (5, .int x5), (6, .int x6)] [] := by
  intro x1 x2 x3 x4 x5 x6 hf H locs ls hP hS hl
  obtain ⟨hx, hb, hr, hml, hown, hts, hlocks, hK, hX, hj⟩ := id C
  unfold fX6_countOf_40B at hf
  refine lv_iload hx hb dX6_countOf_40 (lv_at hl 6 rfl) ?_
  refine lv_aload_n hx hb dX6_countOf_42 rfl (lv_at hl 0 rfl) ?_
  refine r_get (k := 1) (v := .ref (ea E 42)) C hP oC_41 rfl iX6 (by decide) wm_t285 rfl rfl dX6_countOf_43 ?_
  refine r_alen (v := 288) C hP aC_42 rfl dX6_countOf_46 ?_
  refine lv_icmp_ge (tgt := 132) hx hb dX6_countOf_47 (by decide) (fun c1 => ?_) (fun c1 => ?_)
  · replace hf := it_t c1 hf
    refine lv_iload hx hb dX6_countOf_132 (lv_at hl 5 rfl) ?_
    cases hf
    exact r_iret C hP hS dX6_countOf_134
  · replace hf := it_f c1 hf
    refine lv_iload_n hx hb dX6_countOf_50 rfl (lv_at hl 1 rfl) ?_
    refine lv_iload hx hb dX6_countOf_51 (lv_at hl 6 rfl) ?_
    refine lv_bipush (v := 36) hx hb dX6_countOf_53 (by decide) ?_
    refine lv_idiv hx hb dX6_countOf_55 (by decide) ?_
    refine r_cSi (n := 2) (As := [.int x1, .int (x6 / 36)]) (rest := []) C (c_fX6_fits hj σ H.size x1 (x6 / 36)) gs_RX6_26 (by decide +kernel) ⟨rfl, rfl, by decide, by decide⟩ rfl rfl (Nat.le_of_ble_eq_true rfl) dX6_countOf_56 hP hS hl.1 (fun H locs hP hS => ?_)
    refine lv_if_eq (tgt := 91) hx hb dX6_countOf_59 (by decide) (fun c2 => ?_) (fun c2 => ?_)
    · replace hf := it_t c2 hf
      exact b_fX6_countOf_91 σ C rec40 hr40 x1 x2 x3 x4 x5 x6 hf H locs ls hP hS (lv_sub hl [0, 1, 2, 3, 4, 5, 6] rfl)
    · replace hf := it_f c2 hf
      refine lv_iload_n hx hb dX6_countOf_62 rfl (lv_at hl 2 rfl) ?_
      refine lv_iload hx hb dX6_countOf_63 (lv_at hl 6 rfl) ?_
      refine lv_iconst (v := 3) hx hb dX6_countOf_65 (by decide) ?_
      refine lv_idiv hx hb dX6_countOf_66 (by decide) ?_
      refine lv_bipush (v := 12) hx hb dX6_countOf_67 (by decide) ?_
      refine lv_irem hx hb dX6_countOf_69 (by decide) ?_
      refine r_cSi (n := 2) (As := [.int x2, .int ((x6 / 3) - (x6 / 3) / 12 * 12)]) (rest := []) C (c_fX6_fits hj σ H.size x2 ((x6 / 3) - (x6 / 3) / 12 * 12)) gs_RX6_26 (by decide +kernel) ⟨rfl, rfl, by decide, by decide⟩ rfl rfl (Nat.le_of_ble_eq_true rfl) dX6_countOf_70 hP hS hl.1 (fun H locs hP hS => ?_)
      refine lv_if_eq (tgt := 91) hx hb dX6_countOf_73 (by decide) (fun c3 => ?_) (fun c3 => ?_)
      · replace hf := it_t c3 hf
        exact b_fX6_countOf_91 σ C rec40 hr40 x1 x2 x3 x4 x5 x6 hf H locs ls hP hS (lv_sub hl [0, 1, 2, 3, 4, 5, 6] rfl)
      · replace hf := it_f c3 hf
        refine lv_iload_n hx hb dX6_countOf_76 rfl (lv_at hl 3 rfl) ?_
        refine lv_iload hx hb dX6_countOf_77 (lv_at hl 6 rfl) ?_
        refine lv_iconst (v := 3) hx hb dX6_countOf_79 (by decide) ?_
        refine lv_irem hx hb dX6_countOf_80 (by decide) ?_
        refine r_cSi (n := 2) (As := [.int x3, .int (x6 - x6 / 3 * 3)]) (rest := []) C (c_fX6_fits hj σ H.size x3 (x6 - x6 / 3 * 3)) gs_RX6_26 (by decide +kernel) ⟨rfl, rfl, by decide, by decide⟩ rfl rfl (Nat.le_of_ble_eq_true rfl) dX6_countOf_81 hP hS hl.1 (fun H locs hP hS => ?_)
        refine lv_if_eq (tgt := 91) hx hb dX6_countOf_84 (by decide) (fun c4 => ?_) (fun c4 => ?_)
        · replace hf := it_t c4 hf
          exact b_fX6_countOf_91 σ C rec40 hr40 x1 x2 x3 x4 x5 x6 hf H locs ls hP hS (lv_sub hl [0, 1, 2, 3, 4, 5, 6] rfl)
        · replace hf := it_f c4 hf
          refine lv_iconst (v := 1) hx hb dX6_countOf_87 (by decide) ?_
          refine lv_goto (tgt := 92) hx hb dX6_countOf_88 (by decide) ?_
          exact b_fX6_countOf_92 σ C rec40 hr40 x1 x2 x3 x4 x5 x6 1 hf H locs ls hP hS (lv_sub hl [0, 1, 2, 3, 4, 5, 6] rfl)
def fX6_countOf_40 (σ : St) : Nat → Int32 → Int32 → Int32 → Int32 → Int32 → Int32 → Option Int32
  | 0 => fun _ _ _ _ _ _ => none
  | n + 1 => fun x1 x2 x3 x4 x5 x6 => fX6_countOf_40B σ (fX6_countOf_40 σ n) x1 x2 x3 x4 x5 x6
theorem b_fX6_countOf_40 {E : Ev} {l : Launch} {p : Program} {e : Env} {s : State} {m : MethodId} {args : Array Value} {below : List Frame} {meth : Method} {c : Code} (σ : St) (C : CX true E RX6 cX6_countOf 8 (some .int) p s m args meth c) {rr : Int32} : ∀ (n : Nat) (x1 : Int32) (x2 : Int32) (x3 : Int32) (x4 : Int32) (x5 : Int32) (x6 : Int32), fX6_countOf_40 σ n x1 x2 x3 x4 x5 x6 = some rr → GW true l (rmD 2) E 8 p e s m args below meth c (MQ below (QI true E rr σ s.heap.size) args s 0 0 (aW true E s.heap.size)) σ 40 [(0, .ref (ea E 41)), (1, .int x1), (2, .int x2), (3, .int x3), (4, .int x4), (5, .int x5), (6, .int x6)] [] := by
  intro n
  induction n with
  | zero => intro x1 x2 x3 x4 x5 x6 hf; have hf : (none : Option _) = some _ := hf; cases hf
  | succ n ih => intro x1 x2 x3 x4 x5 x6 hf; exact b_fX6_countOf_40B σ C (fX6_countOf_40 σ n) ih x1 x2 x3 x4 x5 x6 hf
def fX6_countOf (σ : St) (a0 : Int32) (a1 : Int32) (a2 : Int32) (a3 : Int32) : Option Int32 :=
(if (fX10_within (a0 + 1) 9) = 0 then
some (-1)
else
(if (fX10_within (a1 + 1) 13) = 0 then
some (-1)
else
(if (fX10_within (a2 + 1) 4) = 0 then
some (-1)
else
fX6_countOf_40 σ FU a0 a1 a2 a3 0 0)))
set_option maxHeartbeats 4000000 in
theorem c_fX6_countOf {E : Ev} {l : Launch} (hj : jW true E) (σ : St) (sz : Nat) (a0 : Int32) (a1 : Int32) (a2 : Int32) (a3 : Int32) {rr : Int32} (hf : fX6_countOf σ a0 a1 a2 a3 = some rr) : Met l yX6_countOf (Cond.code yX6_countOf cX6_countOf 8 (some .int) :: gT) (rmD 2) (va_Pc [.ref (ea E 41), .int a0, .int a1, .int a2, .int a3] (preW true E σ sz)) (QI true E rr σ sz) 0 0 (aW true E sz) := by
  refine r_entry (QI true E rr σ) hj (by decide) [.ref (ea E 41), .int a0, .int a1, .int a2, .int a3] (Nat.le_of_ble_eq_true rfl) (fun p e s m args below meth c C => ?_)
  intro H locs ls hP hS hl
  have hl : lv_has ls 8 [(0, .ref (ea E 41)), (1, .int a0), (2, .int a1), (3, .int a2), (4, .int a3)] := hl
  obtain ⟨hx, hb, hr, hml, hown, hts, hlocks, hK, hX, hj⟩ := id C
  unfold fX6_countOf at hf
  refine lv_iload_n hx hb dX6_countOf_0 rfl (lv_at hl 1 rfl) ?_
  refine lv_iconst (v := 1) hx hb dX6_countOf_1 (by decide) ?_
  refine lv_iadd hx hb dX6_countOf_2 ?_
  refine lv_bipush (v := 9) hx hb dX6_countOf_3 (by decide) ?_
  refine r_cNi (n := 2) (As := [.int (a0 + 1), .int 9]) (rest := []) (host := "SoupCargo") C (c_fX10_within hj σ H.size (a0 + 1) 9) (by decide +kernel) wm_t343 wm_t1 wm_t342 (by decide +kernel) ⟨rfl, rfl, by decide, by decide⟩ rfl rfl (Nat.le_of_ble_eq_true rfl) dX6_countOf_5 hP hS hl.1 (fun H locs hP hS => ?_)
  refine lv_if_eq (tgt := 32) hx hb dX6_countOf_8 (by decide) (fun c1 => ?_) (fun c1 => ?_)
  · replace hf := it_t c1 hf
    refine lv_iconst (v := (-1)) hx hb dX6_countOf_32 (by decide) ?_
    cases hf
    exact r_iret C hP hS dX6_countOf_33
  · replace hf := it_f c1 hf
    refine lv_iload_n hx hb dX6_countOf_11 rfl (lv_at hl 2 rfl) ?_
    refine lv_iconst (v := 1) hx hb dX6_countOf_12 (by decide) ?_
    refine lv_iadd hx hb dX6_countOf_13 ?_
    refine lv_bipush (v := 13) hx hb dX6_countOf_14 (by decide) ?_
    refine r_cNi (n := 2) (As := [.int (a1 + 1), .int 13]) (rest := []) (host := "SoupCargo") C (c_fX10_within hj σ H.size (a1 + 1) 13) (by decide +kernel) wm_t343 wm_t1 wm_t342 (by decide +kernel) ⟨rfl, rfl, by decide, by decide⟩ rfl rfl (Nat.le_of_ble_eq_true rfl) dX6_countOf_16 hP hS hl.1 (fun H locs hP hS => ?_)
    refine lv_if_eq (tgt := 32) hx hb dX6_countOf_19 (by decide) (fun c2 => ?_) (fun c2 => ?_)
    · replace hf := it_t c2 hf
      refine lv_iconst (v := (-1)) hx hb dX6_countOf_32 (by decide) ?_
      cases hf
      exact r_iret C hP hS dX6_countOf_33
    · replace hf := it_f c2 hf
      refine lv_iload_n hx hb dX6_countOf_22 rfl (lv_at hl 3 rfl) ?_
      refine lv_iconst (v := 1) hx hb dX6_countOf_23 (by decide) ?_
      refine lv_iadd hx hb dX6_countOf_24 ?_
      refine lv_iconst (v := 4) hx hb dX6_countOf_25 (by decide) ?_
      refine r_cNi (n := 2) (As := [.int (a2 + 1), .int 4]) (rest := []) (host := "SoupCargo") C (c_fX10_within hj σ H.size (a2 + 1) 4) (by decide +kernel) wm_t343 wm_t1 wm_t342 (by decide +kernel) ⟨rfl, rfl, by decide, by decide⟩ rfl rfl (Nat.le_of_ble_eq_true rfl) dX6_countOf_26 hP hS hl.1 (fun H locs hP hS => ?_)
      refine lv_if_ne (tgt := 34) hx hb dX6_countOf_29 (by decide) (fun c3 => ?_) (fun c3 => ?_)
      · replace hf := it_f c3 hf
        refine lv_iconst (v := 0) hx hb dX6_countOf_34 (by decide) ?_
        refine lv_istore (lv' := [(5, .int 0), (0, .ref (ea E 41)), (1, .int a0), (2, .int a1), (3, .int a2), (4, .int a3)]) hx hb dX6_countOf_35 hl (by decide) rfl (fun ls hl => ?_)
        refine lv_iconst (v := 0) hx hb dX6_countOf_37 (by decide) ?_
        refine lv_istore (lv' := [(6, .int 0), (5, .int 0), (0, .ref (ea E 41)), (1, .int a0), (2, .int a1), (3, .int a2), (4, .int a3)]) hx hb dX6_countOf_38 hl (by decide) rfl (fun ls hl => ?_)
        exact b_fX6_countOf_40 σ C FU a0 a1 a2 a3 0 0 hf H locs ls hP hS (lv_sub hl [2, 3, 4, 5, 6, 1, 0] rfl)
      · replace hf := it_t c3 hf
        refine lv_iconst (v := (-1)) hx hb dX6_countOf_32 (by decide) ?_
        cases hf
        exact r_iret C hP hS dX6_countOf_33
def fX6_worstHarbour_9B (σ : St) (rec9 : Int32 → Int32 → Int32 → Int32 → Option Int32) (x1 : Int32) (x2 : Int32) (x3 : Int32) (x4 : Int32) : Option Int32 :=
(if 8 ≤ x4 then
some x1
else
(cq (fX6_countOf σ x4 (-1) (-1) 0) fun r2 =>
(cq (fX6_countOf σ x4 (-1) (-1) 1) fun r4 =>
(if r2 ≤ 0 then
rec9 x1 x2 x3 (x4 + 1)
else
(if ((r4 + 1) * x3) ≤ (x2 * (r2 + 2)) then
rec9 x1 x2 x3 (x4 + 1)
else
rec9 x4 (r4 + 1) (r2 + 2) (x4 + 1))))))
set_option maxHeartbeats 4000000 in
theorem b_fX6_worstHarbour_9B {E : Ev} {l : Launch} {p : Program} {e : Env} {s : State} {m : MethodId} {args : Array Value} {below : List Frame} {meth : Method} {c : Code} (σ : St) (C : CX true E RX6 cX6_worstHarbour 7 (some .int) p s m args meth c) {rr : Int32} (rec9 : Int32 → Int32 → Int32 → Int32 → Option Int32) (hr9 : ∀  (x1 : Int32) (x2 : Int32) (x3 : Int32) (x4 : Int32), rec9 x1 x2 x3 x4 = some rr → GW true l (rmD 3) E 7 p e s m args below meth c (MQ below (QI true E rr σ s.heap.size) args s 0 0 (aW true E s.heap.size)) σ 9 [(0, .ref (ea E 41)), (1, .int x1), (2, .int x2), (3, .int x3), (4, .int x4)] []) : ∀  (x1 : Int32) (x2 : Int32) (x3 : Int32) (x4 : Int32), fX6_worstHarbour_9B σ rec9 x1 x2 x3 x4 = some rr → GW true l (rmD 3) E 7 p e s m args below meth c (MQ below (QI true E rr σ s.heap.size) args s 0 0 (aW true E s.heap.size)) σ 9 [(0, .ref (ea E 41)), (1, .int x1), (2, .int x2), (3, .int x3), (4, .int x4)] [] := by
  intro x1 x2 x3 x4 hf H locs ls hP hS hl
  obtain ⟨hx, hb, hr, hml, hown, hts, hlocks, hK, hX, hj⟩ := id C
  unfold fX6_worstHarbour_9B at hf
  refine lv_iload hx hb dX6_worstHarbour_9 (lv_at hl 4 rfl) ?_
  refine lv_bipush (v := 8) hx hb dX6_worstHarbour_11 (by decide) ?_
  refine lv_icmp_ge (tgt := 75) hx hb dX6_worstHarbour_13 (by decide) (fun c1 => ?_) (fun c1 => ?_)
  · replace hf := it_t c1 hf
    refine lv_iload_n hx hb dX6_worstHarbour_75 rfl (lv_at hl 1 rfl) ?_
    cases hf
    exact r_iret C hP hS dX6_worstHarbour_76
  · replace hf := it_f c1 hf
    refine lv_aload_n hx hb dX6_worstHarbour_16 rfl (lv_at hl 0 rfl) ?_
    refine lv_iload hx hb dX6_worstHarbour_17 (lv_at hl 4 rfl) ?_
    refine lv_iconst (v := (-1)) hx hb dX6_worstHarbour_19 (by decide) ?_
    refine lv_iconst (v := (-1)) hx hb dX6_worstHarbour_20 (by decide) ?_
    refine lv_iconst (v := 0) hx hb dX6_worstHarbour_21 (by decide) ?_
    obtain ⟨r2, hc3, hf⟩ := cq_e hf
    refine r_cVi (n := 4) (As := [.int x4, .int (-1), .int (-1), .int 0]) (rest := []) C (c_fX6_countOf hj σ H.size x4 (-1) (-1) 0 hc3) oC_41 rfl gv_RX6_29 (by decide +kernel) ⟨rfl, rfl, by decide, by decide⟩ rfl rfl (Nat.le_of_ble_eq_true rfl) dX6_worstHarbour_22 hP hS hl.1 (fun H locs hP hS => ?_)
    refine lv_istore (lv' := [(5, .int r2), (0, .ref (ea E 41)), (1, .int x1), (2, .int x2), (3, .int x3), (4, .int x4)]) hx hb dX6_worstHarbour_25 hl (by decide) rfl (fun ls hl => ?_)
    refine lv_aload_n hx hb dX6_worstHarbour_27 rfl (lv_at hl 1 rfl) ?_
    refine lv_iload hx hb dX6_worstHarbour_28 (lv_at hl 5 rfl) ?_
    refine lv_iconst (v := (-1)) hx hb dX6_worstHarbour_30 (by decide) ?_
    refine lv_iconst (v := (-1)) hx hb dX6_worstHarbour_31 (by decide) ?_
    refine lv_iconst (v := 1) hx hb dX6_worstHarbour_32 (by decide) ?_
    obtain ⟨r4, hc5, hf⟩ := cq_e hf
    refine r_cVi (n := 4) (As := [.int x4, .int (-1), .int (-1), .int 1]) (rest := []) C (c_fX6_countOf hj σ H.size x4 (-1) (-1) 1 hc5) oC_41 rfl gv_RX6_29 (by decide +kernel) ⟨rfl, rfl, by decide, by decide⟩ rfl rfl (Nat.le_of_ble_eq_true rfl) dX6_worstHarbour_33 hP hS hl.1 (fun H locs hP hS => ?_)
    refine lv_iconst (v := 1) hx hb dX6_worstHarbour_36 (by decide) ?_
    refine lv_iadd hx hb dX6_worstHarbour_37 ?_
    refine lv_istore (lv' := [(6, .int (r4 + 1)), (5, .int r2), (0, .ref (ea E 41)), (1, .int x1), (2, .int x2), (3, .int x3), (4, .int x4)]) hx hb dX6_worstHarbour_38 hl (by decide) rfl (fun ls hl => ?_)
    refine lv_iload hx hb dX6_worstHarbour_40 (lv_at hl 1 rfl) ?_
    refine lv_if_le (tgt := 69) hx hb dX6_worstHarbour_42 (by decide) (fun c6 => ?_) (fun c6 => ?_)
    · replace hf := it_t c6 hf
      refine lv_iinc (v := (x4 + 1)) (lv' := [(4, .int (x4 + 1)), (6, .int (r4 + 1)), (5, .int r2), (0, .ref (ea E 41)), (1, .int x1), (2, .int x2), (3, .int x3)]) hx hb dX6_worstHarbour_69 hl (k := 6) rfl rfl (by decide) rfl (fun ls hl => ?_)
      refine lv_goto (tgt := 9) hx hb dX6_worstHarbour_72 (by decide) ?_
      exact hr9 x1 x2 x3 (x4 + 1) hf H locs ls hP hS (lv_sub hl [3, 4, 5, 6, 0] rfl)
    · replace hf := it_f c6 hf
      refine lv_iload hx hb dX6_worstHarbour_45 (lv_at hl 0 rfl) ?_
      refine lv_iload_n hx hb dX6_worstHarbour_47 rfl (lv_at hl 5 rfl) ?_
      refine lv_imul hx hb dX6_worstHarbour_48 ?_
      refine lv_iload_n hx hb dX6_worstHarbour_49 rfl (lv_at hl 4 rfl) ?_
      refine lv_iload hx hb dX6_worstHarbour_50 (lv_at hl 1 rfl) ?_
      refine lv_iconst (v := 2) hx hb dX6_worstHarbour_52 (by decide) ?_
      refine lv_iadd hx hb dX6_worstHarbour_53 ?_
      refine lv_imul hx hb dX6_worstHarbour_54 ?_
      refine lv_icmp_le (tgt := 69) hx hb dX6_worstHarbour_55 (by decide) (fun c7 => ?_) (fun c7 => ?_)
      · replace hf := it_t c7 hf
        refine lv_iinc (v := (x4 + 1)) (lv' := [(4, .int (x4 + 1)), (6, .int (r4 + 1)), (5, .int r2), (0, .ref (ea E 41)), (1, .int x1), (2, .int x2), (3, .int x3)]) hx hb dX6_worstHarbour_69 hl (k := 6) rfl rfl (by decide) rfl (fun ls hl => ?_)
        refine lv_goto (tgt := 9) hx hb dX6_worstHarbour_72 (by decide) ?_
        exact hr9 x1 x2 x3 (x4 + 1) hf H locs ls hP hS (lv_sub hl [3, 4, 5, 6, 0] rfl)
      · replace hf := it_f c7 hf
        refine lv_iload hx hb dX6_worstHarbour_58 (lv_at hl 6 rfl) ?_
        refine lv_istore_n (lv' := [(1, .int x4), (6, .int (r4 + 1)), (5, .int r2), (0, .ref (ea E 41)), (2, .int x2), (3, .int x3), (4, .int x4)]) hx hb dX6_worstHarbour_60 rfl hl (by decide) rfl (fun ls hl => ?_)
        refine lv_iload hx hb dX6_worstHarbour_61 (lv_at hl 1 rfl) ?_
        refine lv_istore_n (lv' := [(2, .int (r4 + 1)), (1, .int x4), (6, .int (r4 + 1)), (5, .int r2), (0, .ref (ea E 41)), (3, .int x3), (4, .int x4)]) hx hb dX6_worstHarbour_63 rfl hl (by decide) rfl (fun ls hl => ?_)
        refine lv_iload hx hb dX6_worstHarbour_64 (lv_at hl 3 rfl) ?_
        refine lv_iconst (v := 2) hx hb dX6_worstHarbour_66 (by decide) ?_
        refine lv_iadd hx hb dX6_worstHarbour_67 ?_
        refine lv_istore_n (lv' := [(3, .int (r2 + 2)), (2, .int (r4 + 1)), (1, .int x4), (6, .int (r4 + 1)), (5, .int r2), (0, .ref (ea E 41)), (4, .int x4)]) hx hb dX6_worstHarbour_68 rfl hl (by decide) rfl (fun ls hl => ?_)
        refine lv_iinc (v := (x4 + 1)) (lv' := [(4, .int (x4 + 1)), (3, .int (r2 + 2)), (2, .int (r4 + 1)), (1, .int x4), (6, .int (r4 + 1)), (5, .int r2), (0, .ref (ea E 41))]) hx hb dX6_worstHarbour_69 hl (k := 6) rfl rfl (by decide) rfl (fun ls hl => ?_)
        refine lv_goto (tgt := 9) hx hb dX6_worstHarbour_72 (by decide) ?_
        exact hr9 x4 (r4 + 1) (r2 + 2) (x4 + 1) hf H locs ls hP hS (lv_sub hl [6, 3, 2, 1, 0] rfl)
def fX6_worstHarbour_9 (σ : St) : Nat → Int32 → Int32 → Int32 → Int32 → Option Int32
  | 0 => fun _ _ _ _ => none
  | n + 1 => fun x1 x2 x3 x4 => fX6_worstHarbour_9B σ (fX6_worstHarbour_9 σ n) x1 x2 x3 x4
theorem b_fX6_worstHarbour_9 {E : Ev} {l : Launch} {p : Program} {e : Env} {s : State} {m : MethodId} {args : Array Value} {below : List Frame} {meth : Method} {c : Code} (σ : St) (C : CX true E RX6 cX6_worstHarbour 7 (some .int) p s m args meth c) {rr : Int32} : ∀ (n : Nat) (x1 : Int32) (x2 : Int32) (x3 : Int32) (x4 : Int32), fX6_worstHarbour_9 σ n x1 x2 x3 x4 = some rr → GW true l (rmD 3) E 7 p e s m args below meth c (MQ below (QI true E rr σ s.heap.size) args s 0 0 (aW true E s.heap.size)) σ 9 [(0, .ref (ea E 41)), (1, .int x1), (2, .int x2), (3, .int x3), (4, .int x4)] [] := by
  intro n
  induction n with
  | zero => intro x1 x2 x3 x4 hf; have hf : (none : Option _) = some _ := hf; cases hf
  | succ n ih => intro x1 x2 x3 x4 hf; exact b_fX6_worstHarbour_9B σ C (fX6_worstHarbour_9 σ n) ih x1 x2 x3 x4 hf
def fX6_worstHarbour (σ : St) : Option Int32 :=
fX6_worstHarbour_9 σ FU (-1) 0 1 0
set_option maxHeartbeats 4000000 in
theorem c_fX6_worstHarbour {E : Ev} {l : Launch} (hj : jW true E) (σ : St) (sz : Nat) {rr : Int32} (hf : fX6_worstHarbour σ = some rr) : Met l yX6_worstHarbour (Cond.code yX6_worstHarbour cX6_worstHarbour 7 (some .int) :: gT) (rmD 3) (va_Pc [.ref (ea E 41)] (preW true E σ sz)) (QI true E rr σ sz) 0 0 (aW true E sz) := by
  refine r_entry (QI true E rr σ) hj (by decide) [.ref (ea E 41)] (Nat.le_of_ble_eq_true rfl) (fun p e s m args below meth c C => ?_)
  intro H locs ls hP hS hl
  have hl : lv_has ls 7 [(0, .ref (ea E 41))] := hl
  obtain ⟨hx, hb, hr, hml, hown, hts, hlocks, hK, hX, hj⟩ := id C
  unfold fX6_worstHarbour at hf
  refine lv_iconst (v := (-1)) hx hb dX6_worstHarbour_0 (by decide) ?_
  refine lv_istore_n (lv' := [(1, .int (-1)), (0, .ref (ea E 41))]) hx hb dX6_worstHarbour_1 rfl hl (by decide) rfl (fun ls hl => ?_)
  refine lv_iconst (v := 0) hx hb dX6_worstHarbour_2 (by decide) ?_
  refine lv_istore_n (lv' := [(2, .int 0), (1, .int (-1)), (0, .ref (ea E 41))]) hx hb dX6_worstHarbour_3 rfl hl (by decide) rfl (fun ls hl => ?_)
  refine lv_iconst (v := 1) hx hb dX6_worstHarbour_4 (by decide) ?_
  refine lv_istore_n (lv' := [(3, .int 1), (2, .int 0), (1, .int (-1)), (0, .ref (ea E 41))]) hx hb dX6_worstHarbour_5 rfl hl (by decide) rfl (fun ls hl => ?_)
  refine lv_iconst (v := 0) hx hb dX6_worstHarbour_6 (by decide) ?_
  refine lv_istore (lv' := [(4, .int 0), (3, .int 1), (2, .int 0), (1, .int (-1)), (0, .ref (ea E 41))]) hx hb dX6_worstHarbour_7 hl (by decide) rfl (fun ls hl => ?_)
  exact b_fX6_worstHarbour_9 σ C FU (-1) 0 1 0 hf H locs ls hP hS (lv_sub hl [4, 3, 2, 1, 0] rfl)
def fX7_tell (σ : St) (a0 : Int32) (a1 : Int32) (a2 : Int32) : Option (Int32 × St) :=
(if (fX10_within a0 30) = 0 then
some (0, σ)
else
(if (fX10_within a1 10) = 0 then
some (0, σ)
else
(if (fX10_within a2 10) = 0 then
some (0, σ)
else
(wrK 30 σ 3 a0 a1 fun σ4 =>
(wrK 30 σ4 4 a0 a2 fun σ6 =>
some (1, σ6))))))
set_option maxHeartbeats 4000000 in
theorem c_fX7_tell {E : Ev} {l : Launch} (hj : jW true E) (σ : St) (sz : Nat) (a0 : Int32) (a1 : Int32) (a2 : Int32) {rr : Int32} {sr : St} (hf : fX7_tell σ a0 a1 a2 = some (rr, sr)) : Met l yX7_tell (Cond.code yX7_tell cX7_tell 4 (some .boolean) :: gT) (rmD 2) (va_Pc [.ref (ea E 2), .int a0, .int a1, .int a2] (preW true E σ sz)) (QI true E rr sr sz) 0 0 (aW true E sz) := by
  refine r_entry (QI true E rr sr) hj (by decide) [.ref (ea E 2), .int a0, .int a1, .int a2] (Nat.le_of_ble_eq_true rfl) (fun p e s m args below meth c C => ?_)
  intro H locs ls hP hS hl
  have hl : lv_has ls 4 [(0, .ref (ea E 2)), (1, .int a0), (2, .int a1), (3, .int a2)] := hl
  obtain ⟨hx, hb, hr, hml, hown, hts, hlocks, hK, hX, hj⟩ := id C
  unfold fX7_tell at hf
  refine lv_iload_n hx hb dX7_tell_0 rfl (lv_at hl 1 rfl) ?_
  refine lv_bipush (v := 30) hx hb dX7_tell_1 (by decide) ?_
  refine r_cNi (n := 2) (As := [.int a0, .int 30]) (rest := []) (host := "SoupCargo") C (c_fX10_within hj σ H.size a0 30) (by decide +kernel) wm_t343 wm_t1 wm_t342 (by decide +kernel) ⟨rfl, rfl, by decide, by decide⟩ rfl rfl (Nat.le_of_ble_eq_true rfl) dX7_tell_3 hP hS hl.1 (fun H locs hP hS => ?_)
  refine lv_if_eq (tgt := 27) hx hb dX7_tell_6 (by decide) (fun c1 => ?_) (fun c1 => ?_)
  · replace hf := it_t c1 hf
    refine lv_iconst (v := 0) hx hb dX7_tell_27 (by decide) ?_
    cases hf
    exact r_zret C rfl hP hS dX7_tell_28
  · replace hf := it_f c1 hf
    refine lv_iload_n hx hb dX7_tell_9 rfl (lv_at hl 2 rfl) ?_
    refine lv_bipush (v := 10) hx hb dX7_tell_10 (by decide) ?_
    refine r_cNi (n := 2) (As := [.int a1, .int 10]) (rest := []) (host := "SoupCargo") C (c_fX10_within hj σ H.size a1 10) (by decide +kernel) wm_t343 wm_t1 wm_t342 (by decide +kernel) ⟨rfl, rfl, by decide, by decide⟩ rfl rfl (Nat.le_of_ble_eq_true rfl) dX7_tell_12 hP hS hl.1 (fun H locs hP hS => ?_)
    refine lv_if_eq (tgt := 27) hx hb dX7_tell_15 (by decide) (fun c2 => ?_) (fun c2 => ?_)
    · replace hf := it_t c2 hf
      refine lv_iconst (v := 0) hx hb dX7_tell_27 (by decide) ?_
      cases hf
      exact r_zret C rfl hP hS dX7_tell_28
    · replace hf := it_f c2 hf
      refine lv_iload_n hx hb dX7_tell_18 rfl (lv_at hl 3 rfl) ?_
      refine lv_bipush (v := 10) hx hb dX7_tell_19 (by decide) ?_
      refine r_cNi (n := 2) (As := [.int a2, .int 10]) (rest := []) (host := "SoupCargo") C (c_fX10_within hj σ H.size a2 10) (by decide +kernel) wm_t343 wm_t1 wm_t342 (by decide +kernel) ⟨rfl, rfl, by decide, by decide⟩ rfl rfl (Nat.le_of_ble_eq_true rfl) dX7_tell_21 hP hS hl.1 (fun H locs hP hS => ?_)
      refine lv_if_ne (tgt := 29) hx hb dX7_tell_24 (by decide) (fun c3 => ?_) (fun c3 => ?_)
      · replace hf := it_f c3 hf
        refine lv_aload_n hx hb dX7_tell_29 rfl (lv_at hl 0 rfl) ?_
        refine r_get (k := 0) (v := .ref (ea E 3)) C hP oC_2 rfl iX7 (by decide) wm_t35 rfl rfl dX7_tell_30 ?_
        refine lv_iload_n hx hb dX7_tell_33 rfl (lv_at hl 1 rfl) ?_
        refine lv_iload_n hx hb dX7_tell_34 rfl (lv_at hl 2 rfl) ?_
        obtain ⟨h5, σ4, eσ4, hf⟩ := wrK_e hf
        refine r_ast C hP hS aC_3 h5 dX7_tell_35 (fun H locs hP hS => ?_)
        rw [← eσ4] at hP
        refine lv_aload_n hx hb dX7_tell_36 rfl (lv_at hl 0 rfl) ?_
        refine r_get (k := 1) (v := .ref (ea E 4)) C hP oC_2 rfl iX7 (by decide) wm_t36 rfl rfl dX7_tell_37 ?_
        refine lv_iload_n hx hb dX7_tell_40 rfl (lv_at hl 1 rfl) ?_
        refine lv_iload_n hx hb dX7_tell_41 rfl (lv_at hl 3 rfl) ?_
        obtain ⟨h7, σ6, eσ6, hf⟩ := wrK_e hf
        refine r_ast C hP hS aC_4 h7 dX7_tell_42 (fun H locs hP hS => ?_)
        rw [← eσ6] at hP
        refine lv_iconst (v := 1) hx hb dX7_tell_43 (by decide) ?_
        cases hf
        exact r_zret C rfl hP hS dX7_tell_44
      · replace hf := it_t c3 hf
        refine lv_iconst (v := 0) hx hb dX7_tell_27 (by decide) ?_
        cases hf
        exact r_zret C rfl hP hS dX7_tell_28
def fX7_rainAt (σ : St) (a0 : Int32) : Option Int32 :=
(if (fX10_within a0 720) = 0 then
some 0
else
(rdK 30 (σ 3) (a0 / 24) fun v2 =>
some v2))
set_option maxHeartbeats 4000000 in
theorem c_fX7_rainAt {E : Ev} {l : Launch} (hj : jW true E) (σ : St) (sz : Nat) (a0 : Int32) {rr : Int32} (hf : fX7_rainAt σ a0 = some rr) : Met l yX7_rainAt (Cond.code yX7_rainAt cX7_rainAt 2 (some .int) :: gT) (rmD 2) (va_Pc [.ref (ea E 2), .int a0] (preW true E σ sz)) (QI true E rr σ sz) 0 0 (aW true E sz) := by
  refine r_entry (QI true E rr σ) hj (by decide) [.ref (ea E 2), .int a0] (Nat.le_of_ble_eq_true rfl) (fun p e s m args below meth c C => ?_)
  intro H locs ls hP hS hl
  have hl : lv_has ls 2 [(0, .ref (ea E 2)), (1, .int a0)] := hl
  obtain ⟨hx, hb, hr, hml, hown, hts, hlocks, hK, hX, hj⟩ := id C
  unfold fX7_rainAt at hf
  refine lv_iload_n hx hb dX7_rainAt_0 rfl (lv_at hl 1 rfl) ?_
  refine lv_sipush (v := 720) hx hb dX7_rainAt_1 (by decide) ?_
  refine r_cNi (n := 2) (As := [.int a0, .int 720]) (rest := []) (host := "SoupCargo") C (c_fX10_within hj σ H.size a0 720) (by decide +kernel) wm_t343 wm_t1 wm_t342 (by decide +kernel) ⟨rfl, rfl, by decide, by decide⟩ rfl rfl (Nat.le_of_ble_eq_true rfl) dX7_rainAt_4 hP hS hl.1 (fun H locs hP hS => ?_)
  refine lv_if_eq (tgt := 22) hx hb dX7_rainAt_7 (by decide) (fun c1 => ?_) (fun c1 => ?_)
  · replace hf := it_t c1 hf
    refine lv_iconst (v := 0) hx hb dX7_rainAt_22 (by decide) ?_
    cases hf
    exact r_iret C hP hS dX7_rainAt_23
  · replace hf := it_f c1 hf
    refine lv_aload_n hx hb dX7_rainAt_10 rfl (lv_at hl 0 rfl) ?_
    refine r_get (k := 0) (v := .ref (ea E 3)) C hP oC_2 rfl iX7 (by decide) wm_t35 rfl rfl dX7_rainAt_11 ?_
    refine lv_iload_n hx hb dX7_rainAt_14 rfl (lv_at hl 1 rfl) ?_
    refine lv_bipush (v := 24) hx hb dX7_rainAt_15 (by decide) ?_
    refine lv_idiv hx hb dX7_rainAt_17 (by decide) ?_
    have h3 := (rdK_e hf).1
    refine r_ald C hP aC_3 h3 dX7_rainAt_18 ?_
    refine lv_topi (fun v2 ev2 => ?_)
    replace hf := rdK_n ev2 hf
    refine lv_goto (tgt := 23) hx hb dX7_rainAt_19 (by decide) ?_
    cases hf
    exact r_iret C hP hS dX7_rainAt_23
def fX7_swellAt (σ : St) (a0 : Int32) : Option Int32 :=
(if (fX10_within a0 720) = 0 then
some 0
else
(rdK 30 (σ 4) (a0 / 24) fun v2 =>
some v2))
set_option maxHeartbeats 4000000 in
theorem c_fX7_swellAt {E : Ev} {l : Launch} (hj : jW true E) (σ : St) (sz : Nat) (a0 : Int32) {rr : Int32} (hf : fX7_swellAt σ a0 = some rr) : Met l yX7_swellAt (Cond.code yX7_swellAt cX7_swellAt 2 (some .int) :: gT) (rmD 2) (va_Pc [.ref (ea E 2), .int a0] (preW true E σ sz)) (QI true E rr σ sz) 0 0 (aW true E sz) := by
  refine r_entry (QI true E rr σ) hj (by decide) [.ref (ea E 2), .int a0] (Nat.le_of_ble_eq_true rfl) (fun p e s m args below meth c C => ?_)
  intro H locs ls hP hS hl
  have hl : lv_has ls 2 [(0, .ref (ea E 2)), (1, .int a0)] := hl
  obtain ⟨hx, hb, hr, hml, hown, hts, hlocks, hK, hX, hj⟩ := id C
  unfold fX7_swellAt at hf
  refine lv_iload_n hx hb dX7_swellAt_0 rfl (lv_at hl 1 rfl) ?_
  refine lv_sipush (v := 720) hx hb dX7_swellAt_1 (by decide) ?_
  refine r_cNi (n := 2) (As := [.int a0, .int 720]) (rest := []) (host := "SoupCargo") C (c_fX10_within hj σ H.size a0 720) (by decide +kernel) wm_t343 wm_t1 wm_t342 (by decide +kernel) ⟨rfl, rfl, by decide, by decide⟩ rfl rfl (Nat.le_of_ble_eq_true rfl) dX7_swellAt_4 hP hS hl.1 (fun H locs hP hS => ?_)
  refine lv_if_eq (tgt := 22) hx hb dX7_swellAt_7 (by decide) (fun c1 => ?_) (fun c1 => ?_)
  · replace hf := it_t c1 hf
    refine lv_iconst (v := 0) hx hb dX7_swellAt_22 (by decide) ?_
    cases hf
    exact r_iret C hP hS dX7_swellAt_23
  · replace hf := it_f c1 hf
    refine lv_aload_n hx hb dX7_swellAt_10 rfl (lv_at hl 0 rfl) ?_
    refine r_get (k := 1) (v := .ref (ea E 4)) C hP oC_2 rfl iX7 (by decide) wm_t36 rfl rfl dX7_swellAt_11 ?_
    refine lv_iload_n hx hb dX7_swellAt_14 rfl (lv_at hl 1 rfl) ?_
    refine lv_bipush (v := 24) hx hb dX7_swellAt_15 (by decide) ?_
    refine lv_idiv hx hb dX7_swellAt_17 (by decide) ?_
    have h3 := (rdK_e hf).1
    refine r_ald C hP aC_4 h3 dX7_swellAt_18 ?_
    refine lv_topi (fun v2 ev2 => ?_)
    replace hf := rdK_n ev2 hf
    refine lv_goto (tgt := 23) hx hb dX7_swellAt_19 (by decide) ?_
    cases hf
    exact r_iret C hP hS dX7_swellAt_23
def fX8_height_20B (b : Nat) (σ : St) (rec20 : Int32 → Int32 → Option Int32) (x1 : Int32) (x2 : Int32) : Option Int32 :=
(if x2 < 0 then
some 0
else
(rdK (stN b) (σ (b + 1)) ((x1 * (σ b 1)) + x2) fun v2 =>
(if v2 ≤ 0 then
rec20 x1 (x2 + (-1))
else
some (x2 + 1))))
set_option maxHeartbeats 4000000 in
theorem b_fX8_height_20B {E : Ev} {l : Launch} {p : Program} {e : Env} {s : State} {m : MethodId} {args : Array Value} {below : List Frame} {meth : Method} {c : Code} {b : Nat} (hfb : fS b) (σ : St) (C : CX true E RX8 cX8_height 3 (some .int) p s m args meth c) {rr : Int32} (rec20 : Int32 → Int32 → Option Int32) (hr20 : ∀  (x1 : Int32) (x2 : Int32), rec20 x1 x2 = some rr → GW true l (rmD 2) E 3 p e s m args below meth c (MQ below (QI true E rr σ s.heap.size) args s 0 0 (aW true E s.heap.size)) σ 20 [(0, .ref (ea E b)), (1, .int x1), (2, .int x2)] []) : ∀  (x1 : Int32) (x2 : Int32), fX8_height_20B b σ rec20 x1 x2 = some rr → GW true l (rmD 2) E 3 p e s m args below meth c (MQ below (QI true E rr σ s.heap.size) args s 0 0 (aW true E s.heap.size)) σ 20 [(0, .ref (ea E b)), (1, .int x1), (2, .int x2)] [] := by
  intro x1 x2 hf H locs ls hP hS hl
  obtain ⟨hx, hb, hr, hml, hown, hts, hlocks, hK, hX, hj⟩ := id C
  unfold fX8_height_20B at hf
  refine lv_iload_n hx hb dX8_height_20 rfl (lv_at hl 2 rfl) ?_
  refine lv_if_lt (tgt := 50) hx hb dX8_height_21 (by decide) (fun c1 => ?_) (fun c1 => ?_)
  · replace hf := it_t c1 hf
    refine lv_iconst (v := 0) hx hb dX8_height_50 (by decide) ?_
    cases hf
    exact r_iret C hP hS dX8_height_51
  · replace hf := it_f c1 hf
    refine lv_aload_n hx hb dX8_height_24 rfl (lv_at hl 0 rfl) ?_
    refine r_get (k := 3) (v := .ref (ea E (b + 1))) C hP (oS hfb) rfl iX8 (by decide) wm_t55 rfl rfl dX8_height_25 ?_
    refine lv_iload_n hx hb dX8_height_28 rfl (lv_at hl 1 rfl) ?_
    refine lv_aload_n hx hb dX8_height_29 rfl (lv_at hl 0 rfl) ?_
    refine r_get (k := 1) (v := .int (σ b 1)) C hP (oS hfb) rfl iX8 (by decide) wm_t53 rfl rfl dX8_height_30 ?_
    refine lv_imul hx hb dX8_height_33 ?_
    refine lv_iload_n hx hb dX8_height_34 rfl (lv_at hl 2 rfl) ?_
    refine lv_iadd hx hb dX8_height_35 ?_
    have h3 := (rdK_e hf).1
    refine r_ald C hP (aS_1 hfb) h3 dX8_height_36 ?_
    refine lv_topi (fun v2 ev2 => ?_)
    replace hf := rdK_n ev2 hf
    refine lv_if_le (tgt := 44) hx hb dX8_height_37 (by decide) (fun c4 => ?_) (fun c4 => ?_)
    · replace hf := it_t c4 hf
      refine lv_iinc (v := (x2 + (-1))) (lv' := [(2, .int (x2 + (-1))), (0, .ref (ea E b)), (1, .int x1)]) hx hb dX8_height_44 hl (k := 2) rfl rfl (by decide) rfl (fun ls hl => ?_)
      refine lv_goto (tgt := 20) hx hb dX8_height_47 (by decide) ?_
      exact hr20 x1 (x2 + (-1)) hf H locs ls hP hS (lv_sub hl [1, 2, 0] rfl)
    · replace hf := it_f c4 hf
      refine lv_iload_n hx hb dX8_height_40 rfl (lv_at hl 2 rfl) ?_
      refine lv_iconst (v := 1) hx hb dX8_height_41 (by decide) ?_
      refine lv_iadd hx hb dX8_height_42 ?_
      cases hf
      exact r_iret C hP hS dX8_height_43
def fX8_height_20 (b : Nat) (σ : St) : Nat → Int32 → Int32 → Option Int32
  | 0 => fun _ _ => none
  | n + 1 => fun x1 x2 => fX8_height_20B b σ (fX8_height_20 b σ n) x1 x2
theorem b_fX8_height_20 {E : Ev} {l : Launch} {p : Program} {e : Env} {s : State} {m : MethodId} {args : Array Value} {below : List Frame} {meth : Method} {c : Code} {b : Nat} (hfb : fS b) (σ : St) (C : CX true E RX8 cX8_height 3 (some .int) p s m args meth c) {rr : Int32} : ∀ (n : Nat) (x1 : Int32) (x2 : Int32), fX8_height_20 b σ n x1 x2 = some rr → GW true l (rmD 2) E 3 p e s m args below meth c (MQ below (QI true E rr σ s.heap.size) args s 0 0 (aW true E s.heap.size)) σ 20 [(0, .ref (ea E b)), (1, .int x1), (2, .int x2)] [] := by
  intro n
  induction n with
  | zero => intro x1 x2 hf; have hf : (none : Option _) = some _ := hf; cases hf
  | succ n ih => intro x1 x2 hf; exact b_fX8_height_20B hfb σ C (fX8_height_20 b σ n) ih x1 x2 hf
def fX8_height (b : Nat) (σ : St) (a0 : Int32) : Option Int32 :=
(if (fX10_within a0 (σ b 0)) = 0 then
some 0
else
fX8_height_20 b σ FU a0 ((σ b 1) - 1))
set_option maxHeartbeats 4000000 in
theorem c_fX8_height {E : Ev} {l : Launch} {b : Nat} (hfb : fS b) (hj : jW true E) (σ : St) (sz : Nat) (a0 : Int32) {rr : Int32} (hf : fX8_height b σ a0 = some rr) : Met l yX8_height (Cond.code yX8_height cX8_height 3 (some .int) :: gT) (rmD 2) (va_Pc [.ref (ea E b), .int a0] (preW true E σ sz)) (QI true E rr σ sz) 0 0 (aW true E sz) := by
  refine r_entry (QI true E rr σ) hj (by decide) [.ref (ea E b), .int a0] (Nat.le_of_ble_eq_true rfl) (fun p e s m args below meth c C => ?_)
  intro H locs ls hP hS hl
  have hl : lv_has ls 3 [(0, .ref (ea E b)), (1, .int a0)] := hl
  obtain ⟨hx, hb, hr, hml, hown, hts, hlocks, hK, hX, hj⟩ := id C
  unfold fX8_height at hf
  refine lv_iload_n hx hb dX8_height_0 rfl (lv_at hl 1 rfl) ?_
  refine lv_aload_n hx hb dX8_height_1 rfl (lv_at hl 0 rfl) ?_
  refine r_get (k := 0) (v := .int (σ b 0)) C hP (oS hfb) rfl iX8 (by decide) wm_t52 rfl rfl dX8_height_2 ?_
  refine r_cNi (n := 2) (As := [.int a0, .int (σ b 0)]) (rest := []) (host := "SoupCargo") C (c_fX10_within hj σ H.size a0 (σ b 0)) (by decide +kernel) wm_t343 wm_t1 wm_t342 (by decide +kernel) ⟨rfl, rfl, by decide, by decide⟩ rfl rfl (Nat.le_of_ble_eq_true rfl) dX8_height_5 hP hS hl.1 (fun H locs hP hS => ?_)
  refine lv_if_ne (tgt := 13) hx hb dX8_height_8 (by decide) (fun c1 => ?_) (fun c1 => ?_)
  · replace hf := it_f c1 hf
    refine lv_aload_n hx hb dX8_height_13 rfl (lv_at hl 0 rfl) ?_
    refine r_get (k := 1) (v := .int (σ b 1)) C hP (oS hfb) rfl iX8 (by decide) wm_t53 rfl rfl dX8_height_14 ?_
    refine lv_iconst (v := 1) hx hb dX8_height_17 (by decide) ?_
    refine lv_isub hx hb dX8_height_18 ?_
    refine lv_istore_n (lv' := [(2, .int ((σ b 1) - 1)), (0, .ref (ea E b)), (1, .int a0)]) hx hb dX8_height_19 rfl hl (by decide) rfl (fun ls hl => ?_)
    exact b_fX8_height_20 hfb σ C FU a0 ((σ b 1) - 1) hf H locs ls hP hS (lv_sub hl [1, 2, 0] rfl)
  · replace hf := it_t c1 hf
    refine lv_iconst (v := 0) hx hb dX8_height_11 (by decide) ?_
    cases hf
    exact r_iret C hP hS dX8_height_12
def fX8_isLit_15 (b : Nat) (σ : St) (x2 : Int32) (x3 : Int32) (y0 : Int32) : Option Int32 :=
(cq (fX2_clock σ) fun r1 =>
(if (fX10_within (r1 - y0) 6) = 0 then
some 0
else
(cq (fX8_height b σ x2) fun r4 =>
(if (x3 + 1) = r4 then
some 1
else
some 0))))
set_option maxHeartbeats 4000000 in
theorem b_fX8_isLit_15 {E : Ev} {l : Launch} {p : Program} {e : Env} {s : State} {m : MethodId} {args : Array Value} {below : List Frame} {meth : Method} {c : Code} {b : Nat} (hfb : fS b) (σ : St) (C : CX true E RX8 cX8_isLit 5 (some .boolean) p s m args meth c) {rr : Int32} : ∀  (x2 : Int32) (x3 : Int32) (y0 : Int32), fX8_isLit_15 b σ x2 x3 y0 = some rr → GW true l (rmD 3) E 5 p e s m args below meth c (MQ below (QI true E rr σ s.heap.size) args s 0 0 (aW true E s.heap.size)) σ 15 [(0, .ref (ea E b)), (1, .ref (ea E 28)), (2, .int x2), (3, .int x3)] [.int y0] := by
  intro x2 x3 y0 hf H locs ls hP hS hl
  obtain ⟨hx, hb, hr, hml, hown, hts, hlocks, hK, hX, hj⟩ := id C
  unfold fX8_isLit_15 at hf
  refine lv_istore (lv' := [(4, .int y0), (0, .ref (ea E b)), (1, .ref (ea E 28)), (2, .int x2), (3, .int x3)]) hx hb dX8_isLit_15 hl (by decide) rfl (fun ls hl => ?_)
  refine lv_aload_n hx hb dX8_isLit_17 rfl (lv_at hl 2 rfl) ?_
  obtain ⟨r1, hc2, hf⟩ := cq_e hf
  refine r_cVi (n := 0) (As := []) (rest := []) C (c_fX2_clock hj σ H.size hc2) oC_28 rfl gv_RX8_75 (by decide +kernel) ⟨rfl, rfl, by decide, by decide⟩ rfl rfl (Nat.le_of_ble_eq_true rfl) dX8_isLit_18 hP hS hl.1 (fun H locs hP hS => ?_)
  refine lv_iload hx hb dX8_isLit_21 (lv_at hl 0 rfl) ?_
  refine lv_isub hx hb dX8_isLit_23 ?_
  refine lv_bipush (v := 6) hx hb dX8_isLit_24 (by decide) ?_
  refine r_cNi (n := 2) (As := [.int (r1 - y0), .int 6]) (rest := []) (host := "SoupCargo") C (c_fX10_within hj σ H.size (r1 - y0) 6) (by decide +kernel) wm_t343 wm_t1 wm_t342 (by decide +kernel) ⟨rfl, rfl, by decide, by decide⟩ rfl rfl (Nat.le_of_ble_eq_true rfl) dX8_isLit_26 hP hS hl.1 (fun H locs hP hS => ?_)
  refine lv_if_eq (tgt := 47) hx hb dX8_isLit_29 (by decide) (fun c3 => ?_) (fun c3 => ?_)
  · replace hf := it_t c3 hf
    refine lv_iconst (v := 0) hx hb dX8_isLit_47 (by decide) ?_
    cases hf
    exact r_zret C rfl hP hS dX8_isLit_48
  · replace hf := it_f c3 hf
    refine lv_iload_n hx hb dX8_isLit_32 rfl (lv_at hl 4 rfl) ?_
    refine lv_iconst (v := 1) hx hb dX8_isLit_33 (by decide) ?_
    refine lv_iadd hx hb dX8_isLit_34 ?_
    refine lv_aload_n hx hb dX8_isLit_35 rfl (lv_at hl 1 rfl) ?_
    refine lv_iload_n hx hb dX8_isLit_36 rfl (lv_at hl 3 rfl) ?_
    obtain ⟨r4, hc5, hf⟩ := cq_e hf
    refine r_cVi (n := 1) (As := [.int x2]) (rest := [.int (x3 + 1)]) C (c_fX8_height hfb hj σ H.size x2 hc5) (oS hfb) rfl gv_RX8_79 (by decide +kernel) ⟨rfl, rfl, by decide, by decide⟩ rfl rfl (Nat.le_of_ble_eq_true rfl) dX8_isLit_37 hP hS hl.1 (fun H locs hP hS => ?_)
    refine lv_icmp_ne (tgt := 47) hx hb dX8_isLit_40 (by decide) (fun c6 => ?_) (fun c6 => ?_)
    · replace hf := it_f c6 hf
      refine lv_iconst (v := 0) hx hb dX8_isLit_47 (by decide) ?_
      cases hf
      exact r_zret C rfl hP hS dX8_isLit_48
    · replace hf := it_t c6 hf
      refine lv_iconst (v := 1) hx hb dX8_isLit_43 (by decide) ?_
      refine lv_goto (tgt := 48) hx hb dX8_isLit_44 (by decide) ?_
      cases hf
      exact r_zret C rfl hP hS dX8_isLit_48
def fX8_isLit (b : Nat) (σ : St) (a1 : Int32) (a2 : Int32) : Option Int32 :=
(if 4 ≤ (a1 / 8) then
fX8_isLit_15 b σ a1 a2 12
else
fX8_isLit_15 b σ a1 a2 6)
set_option maxHeartbeats 4000000 in
theorem c_fX8_isLit {E : Ev} {l : Launch} {b : Nat} (hfb : fS b) (hj : jW true E) (σ : St) (sz : Nat) (a1 : Int32) (a2 : Int32) {rr : Int32} (hf : fX8_isLit b σ a1 a2 = some rr) : Met l yX8_isLit (Cond.code yX8_isLit cX8_isLit 5 (some .boolean) :: gT) (rmD 3) (va_Pc [.ref (ea E b), .ref (ea E 28), .int a1, .int a2] (preW true E σ sz)) (QI true E rr σ sz) 0 0 (aW true E sz) := by
  refine r_entry (QI true E rr σ) hj (by decide) [.ref (ea E b), .ref (ea E 28), .int a1, .int a2] (Nat.le_of_ble_eq_true rfl) (fun p e s m args below meth c C => ?_)
  intro H locs ls hP hS hl
  have hl : lv_has ls 5 [(0, .ref (ea E b)), (1, .ref (ea E 28)), (2, .int a1), (3, .int a2)] := hl
  obtain ⟨hx, hb, hr, hml, hown, hts, hlocks, hK, hX, hj⟩ := id C
  unfold fX8_isLit at hf
  refine lv_iload_n hx hb dX8_isLit_0 rfl (lv_at hl 2 rfl) ?_
  refine lv_bipush (v := 8) hx hb dX8_isLit_1 (by decide) ?_
  refine lv_idiv hx hb dX8_isLit_3 (by decide) ?_
  refine lv_iconst (v := 4) hx hb dX8_isLit_4 (by decide) ?_
  refine lv_icmp_ge (tgt := 13) hx hb dX8_isLit_5 (by decide) (fun c1 => ?_) (fun c1 => ?_)
  · replace hf := it_t c1 hf
    refine lv_bipush (v := 12) hx hb dX8_isLit_13 (by decide) ?_
    exact b_fX8_isLit_15 hfb σ C a1 a2 12 hf H locs ls hP hS (lv_sub hl [0, 1, 2, 3] rfl)
  · replace hf := it_f c1 hf
    refine lv_bipush (v := 6) hx hb dX8_isLit_8 (by decide) ?_
    refine lv_goto (tgt := 15) hx hb dX8_isLit_10 (by decide) ?_
    exact b_fX8_isLit_15 hfb σ C a1 a2 6 hf H locs ls hP hS (lv_sub hl [0, 1, 2, 3] rfl)
def fX8_topIsSoup (b : Nat) (σ : St) (a0 : Int32) : Option Int32 :=
(cq (fX8_height b σ a0) fun r1 =>
(if r1 ≤ 0 then
some 0
else
(rdK (stN b) (σ (b + 4)) (((a0 * (σ b 1)) + r1) - 1) fun v4 =>
(if v4 = 1 then
some 1
else
some 0))))
set_option maxHeartbeats 4000000 in
theorem c_fX8_topIsSoup {E : Ev} {l : Launch} {b : Nat} (hfb : fS b) (hj : jW true E) (σ : St) (sz : Nat) (a0 : Int32) {rr : Int32} (hf : fX8_topIsSoup b σ a0 = some rr) : Met l yX8_topIsSoup (Cond.code yX8_topIsSoup cX8_topIsSoup 3 (some .boolean) :: gT) (rmD 3) (va_Pc [.ref (ea E b), .int a0] (preW true E σ sz)) (QI true E rr σ sz) 0 0 (aW true E sz) := by
  refine r_entry (QI true E rr σ) hj (by decide) [.ref (ea E b), .int a0] (Nat.le_of_ble_eq_true rfl) (fun p e s m args below meth c C => ?_)
  intro H locs ls hP hS hl
  have hl : lv_has ls 3 [(0, .ref (ea E b)), (1, .int a0)] := hl
  obtain ⟨hx, hb, hr, hml, hown, hts, hlocks, hK, hX, hj⟩ := id C
  unfold fX8_topIsSoup at hf
  refine lv_aload_n hx hb dX8_topIsSoup_0 rfl (lv_at hl 0 rfl) ?_
  refine lv_iload_n hx hb dX8_topIsSoup_1 rfl (lv_at hl 1 rfl) ?_
  obtain ⟨r1, hc2, hf⟩ := cq_e hf
  refine r_cVi (n := 1) (As := [.int a0]) (rest := []) C (c_fX8_height hfb hj σ H.size a0 hc2) (oS hfb) rfl gv_RX8_79 (by decide +kernel) ⟨rfl, rfl, by decide, by decide⟩ rfl rfl (Nat.le_of_ble_eq_true rfl) dX8_topIsSoup_2 hP hS hl.1 (fun H locs hP hS => ?_)
  refine lv_istore_n (lv' := [(2, .int r1), (0, .ref (ea E b)), (1, .int a0)]) hx hb dX8_topIsSoup_5 rfl hl (by decide) rfl (fun ls hl => ?_)
  refine lv_iload_n hx hb dX8_topIsSoup_6 rfl (lv_at hl 0 rfl) ?_
  refine lv_if_le (tgt := 33) hx hb dX8_topIsSoup_7 (by decide) (fun c3 => ?_) (fun c3 => ?_)
  · replace hf := it_t c3 hf
    refine lv_iconst (v := 0) hx hb dX8_topIsSoup_33 (by decide) ?_
    cases hf
    exact r_zret C rfl hP hS dX8_topIsSoup_34
  · replace hf := it_f c3 hf
    refine lv_aload_n hx hb dX8_topIsSoup_10 rfl (lv_at hl 1 rfl) ?_
    refine r_get (k := 6) (v := .ref (ea E (b + 4))) C hP (oS hfb) rfl iX8 (by decide) wm_t65 rfl rfl dX8_topIsSoup_11 ?_
    refine lv_iload_n hx hb dX8_topIsSoup_14 rfl (lv_at hl 2 rfl) ?_
    refine lv_aload_n hx hb dX8_topIsSoup_15 rfl (lv_at hl 1 rfl) ?_
    refine r_get (k := 1) (v := .int (σ b 1)) C hP (oS hfb) rfl iX8 (by decide) wm_t53 rfl rfl dX8_topIsSoup_16 ?_
    refine lv_imul hx hb dX8_topIsSoup_19 ?_
    refine lv_iload_n hx hb dX8_topIsSoup_20 rfl (lv_at hl 0 rfl) ?_
    refine lv_iadd hx hb dX8_topIsSoup_21 ?_
    refine lv_iconst (v := 1) hx hb dX8_topIsSoup_22 (by decide) ?_
    refine lv_isub hx hb dX8_topIsSoup_23 ?_
    have h5 := (rdK_e hf).1
    refine r_ald C hP (aS_4 hfb) h5 dX8_topIsSoup_24 ?_
    refine lv_topi (fun v4 ev4 => ?_)
    replace hf := rdK_n ev4 hf
    refine lv_iconst (v := 1) hx hb dX8_topIsSoup_25 (by decide) ?_
    refine lv_icmp_ne (tgt := 33) hx hb dX8_topIsSoup_26 (by decide) (fun c6 => ?_) (fun c6 => ?_)
    · replace hf := it_f c6 hf
      refine lv_iconst (v := 0) hx hb dX8_topIsSoup_33 (by decide) ?_
      cases hf
      exact r_zret C rfl hP hS dX8_topIsSoup_34
    · replace hf := it_t c6 hf
      refine lv_iconst (v := 1) hx hb dX8_topIsSoup_29 (by decide) ?_
      refine lv_goto (tgt := 34) hx hb dX8_topIsSoup_30 (by decide) ?_
      cases hf
      exact r_zret C rfl hP hS dX8_topIsSoup_34
