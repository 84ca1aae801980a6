def fX5_flow_44B (b : Nat) (rec36 : St → Int32 → Int32 → Int32 → Option St) (rec44 : St → Int32 → Int32 → Int32 → Int32 → Option St) (σ : St) (x1 : Int32) (x2 : Int32) (x3 : Int32) (x4 : Int32) : Option St :=
(if 6 ≤ x4 then
rec36 σ x1 x2 (x3 + 1)
else
(cv (fX5_flowOver b σ (((x3 * 6) + x2) - (x4 * x1)) ((((x3 * 6) + x2) - (x4 * x1)) + x1)) fun σ3 =>
rec44 σ3 x1 x2 x3 (x4 + 1)))
set_option maxHeartbeats 4000000 in
theorem b_fX5_flow_44B {E : Ev} {l : Launch} {p : Program} {e : Env} {s : State} {m : MethodId} {args : Array Value} {below : List Frame} {meth : Method} {c : Code} {b : Nat} (hfb : fV b) (C : CX true E RX5 cX5_flow 6 none p s m args meth c) {sr : St} (rec36 : St → Int32 → Int32 → Int32 → Option St) (hr36 : ∀ (σ : St) (x1 : Int32) (x2 : Int32) (x3 : Int32), rec36 σ x1 x2 x3 = some sr → GW true l (rmD 5) E 6 p e s m args below meth c (MQ below (QV true E sr s.heap.size) args s 0 0 (aW true E s.heap.size)) σ 36 [(0, .ref (ea E b)), (1, .int x1), (2, .int x2), (3, .int x3)] []) (rec44 : St → Int32 → Int32 → Int32 → Int32 → Option St) (hr44 : ∀ (σ : St) (x1 : Int32) (x2 : Int32) (x3 : Int32) (x4 : Int32), rec44 σ x1 x2 x3 x4 = some sr → GW true l (rmD 5) E 6 p e s m args below meth c (MQ below (QV true E sr s.heap.size) args s 0 0 (aW true E s.heap.size)) σ 44 [(0, .ref (ea E b)), (1, .int x1), (2, .int x2), (3, .int x3), (4, .int x4)] []) : ∀ (σ : St) (x1 : Int32) (x2 : Int32) (x3 : Int32) (x4 : Int32), fX5_flow_44B b rec36 rec44 σ x1 x2 x3 x4 = some sr → GW true l (rmD 5) E 6 p e s m args below meth c (MQ below (QV true E sr s.heap.size) args s 0 0 (aW true E s.heap.size)) σ 44 [(0, .ref (ea E b)), (1, .int x1), (2, .int x2), (3, .int x3), (4, .int x4)] [] := by
  intro σ x1 x2 x3 x4 hf H locs ls hP hS hl
  obtain ⟨hx, hb, hr, hml, hown, hts, hlocks, hK, hX, hj⟩ := id C
  unfold fX5_flow_44B at hf
  refine lv_iload hx hb dX5_flow_44 (lv_at hl 4 rfl) ?_
  refine lv_bipush (v := 6) hx hb dX5_flow_46 (by decide) ?_
  refine lv_icmp_ge (tgt := 80) hx hb dX5_flow_48 (by decide) (fun c1 => ?_) (fun c1 => ?_)
  · replace hf := it_t c1 hf
    refine lv_iinc (v := (x3 + 1)) (lv' := [(3, .int (x3 + 1)), (0, .ref (ea E b)), (1, .int x1), (2, .int x2), (4, .int x4)]) hx hb dX5_flow_80 hl (k := 3) rfl rfl (by decide) rfl (fun ls hl => ?_)
    refine lv_goto (tgt := 36) hx hb dX5_flow_83 (by decide) ?_
    exact hr36 σ x1 x2 (x3 + 1) hf H locs ls hP hS (lv_sub hl [1, 2, 3, 0] rfl)
  · replace hf := it_f c1 hf
    refine lv_iload_n hx hb dX5_flow_51 rfl (lv_at hl 3 rfl) ?_
    refine lv_bipush (v := 6) hx hb dX5_flow_52 (by decide) ?_
    refine lv_imul hx hb dX5_flow_54 ?_
    refine lv_iload_n hx hb dX5_flow_55 rfl (lv_at hl 2 rfl) ?_
    refine lv_iadd hx hb dX5_flow_56 ?_
    refine lv_iload hx hb dX5_flow_57 (lv_at hl 4 rfl) ?_
    refine lv_iload_n hx hb dX5_flow_59 rfl (lv_at hl 1 rfl) ?_
    refine lv_imul hx hb dX5_flow_60 ?_
    refine lv_isub hx hb dX5_flow_61 ?_
    refine lv_istore (lv' := [(5, .int (((x3 * 6) + x2) - (x4 * x1))), (0, .ref (ea E b)), (1, .int x1), (2, .int x2), (3, .int x3), (4, .int x4)]) hx hb dX5_flow_62 hl (by decide) rfl (fun ls hl => ?_)
    refine lv_aload_n hx hb dX5_flow_64 rfl (lv_at hl 1 rfl) ?_
    refine lv_iload hx hb dX5_flow_65 (lv_at hl 0 rfl) ?_
    refine lv_iload hx hb dX5_flow_67 (lv_at hl 0 rfl) ?_
    refine lv_iload_n hx hb dX5_flow_69 rfl (lv_at hl 2 rfl) ?_
    refine lv_iadd hx hb dX5_flow_70 ?_
    obtain ⟨σ3, hc2, hf⟩ := cv_e hf
    refine r_cVv (n := 2) (As := [.int (((x3 * 6) + x2) - (x4 * x1)), .int ((((x3 * 6) + x2) - (x4 * x1)) + x1)]) (rest := []) C (c_fX5_flowOver hfb hj σ H.size (((x3 * 6) + x2) - (x4 * x1)) ((((x3 * 6) + x2) - (x4 * x1)) + x1) hc2) (oV hfb) rfl gv_RX5_111 (by decide +kernel) (rmD_le (by decide) (by decide)) rfl rfl (Nat.le_of_ble_eq_true rfl) dX5_flow_71 hP hS hl.1 (fun H locs hP hS => ?_)
    refine lv_iinc (v := (x4 + 1)) (lv' := [(4, .int (x4 + 1)), (5, .int (((x3 * 6) + x2) - (x4 * x1))), (0, .ref (ea E b)), (1, .int x1), (2, .int x2), (3, .int x3)]) hx hb dX5_flow_74 hl (k := 5) rfl rfl (by decide) rfl (fun ls hl => ?_)
    refine lv_goto (tgt := 44) hx hb dX5_flow_77 (by decide) ?_
    exact hr44 σ3 x1 x2 x3 (x4 + 1) hf H locs ls hP hS (lv_sub hl [2, 3, 4, 5, 0] rfl)
def fX5_flow_44 (b : Nat) (rec36 : St → Int32 → Int32 → Int32 → Option St) : Nat → St → Int32 → Int32 → Int32 → Int32 → Option St
  | 0 => fun _ _ _ _ _ => none
  | n + 1 => fun σ x1 x2 x3 x4 => fX5_flow_44B b rec36 (fX5_flow_44 b rec36 n) σ x1 x2 x3 x4
theorem b_fX5_flow_44 {E : Ev} {l : Launch} {p : Program} {e : Env} {s : State} {m : MethodId} {args : Array Value} {below : List Frame} {meth : Method} {c : Code} {b : Nat} (hfb : fV b) (C : CX true E RX5 cX5_flow 6 none p s m args meth c) {sr : St} (rec36 : St → Int32 → Int32 → Int32 → Option St) (hr36 : ∀ (σ : St) (x1 : Int32) (x2 : Int32) (x3 : Int32), rec36 σ x1 x2 x3 = some sr → GW true l (rmD 5) E 6 p e s m args below meth c (MQ below (QV true E sr s.heap.size) args s 0 0 (aW true E s.heap.size)) σ 36 [(0, .ref (ea E b)), (1, .int x1), (2, .int x2), (3, .int x3)] []) : ∀ (n : Nat) (σ : St) (x1 : Int32) (x2 : Int32) (x3 : Int32) (x4 : Int32), fX5_flow_44 b rec36 n σ x1 x2 x3 x4 = some sr → GW true l (rmD 5) E 6 p e s m args below meth c (MQ below (QV true E sr s.heap.size) args s 0 0 (aW true E s.heap.size)) σ 44 [(0, .ref (ea E b)), (1, .int x1), (2, .int x2), (3, .int x3), (4, .int x4)] [] := by
  intro n
  induction n with
  | zero => intro σ x1 x2 x3 x4 hf; have hf : (none : Option _) = some _ := hf; cases hf
  | succ n ih => intro σ x1 x2 x3 x4 hf; exact b_fX5_flow_44B hfb C rec36 hr36 (fX5_flow_44 b rec36 n) ih σ x1 x2 x3 x4 hf
def fX5_flow_36B (b : Nat) (rec36 : St → Int32 → Int32 → Int32 → Option St) (σ : St) (x1 : Int32) (x2 : Int32) (x3 : Int32) : Option St :=
(if 4 ≤ x3 then
some σ
else
fX5_flow_44 b rec36 FU σ x1 x2 x3 1)
set_option maxHeartbeats 4000000 in
theorem b_fX5_flow_36B {E : Ev} {l : Launch} {p : Program} {e : Env} {s : State} {m : MethodId} {args : Array Value} {below : List Frame} {meth : Method} {c : Code} {b : Nat} (hfb : fV b) (C : CX true E RX5 cX5_flow 6 none p s m args meth c) {sr : St} (rec36 : St → Int32 → Int32 → Int32 → Option St) (hr36 : ∀ (σ : St) (x1 : Int32) (x2 : Int32) (x3 : Int32), rec36 σ x1 x2 x3 = some sr → GW true l (rmD 5) E 6 p e s m args below meth c (MQ below (QV true E sr s.heap.size) args s 0 0 (aW true E s.heap.size)) σ 36 [(0, .ref (ea E b)), (1, .int x1), (2, .int x2), (3, .int x3)] []) : ∀ (σ : St) (x1 : Int32) (x2 : Int32) (x3 : Int32), fX5_flow_36B b rec36 σ x1 x2 x3 = some sr → GW true l (rmD 5) E 6 p e s m args below meth c (MQ below (QV true E sr s.heap.size) args s 0 0 (aW true E s.heap.size)) σ 36 [(0, .ref (ea E b)), (1, .int x1), (2, .int x2), (3, .int x3)] [] := by
  intro σ x1 x2 x3 hf H locs ls hP hS hl
  obtain ⟨hx, hb, hr, hml, hown, hts, hlocks, hK, hX, hj⟩ := id C
  unfold fX5_flow_36B at hf
  refine lv_iload_n hx hb dX5_flow_36 rfl (lv_at hl 3 rfl) ?_
  refine lv_iconst (v := 4) hx hb dX5_flow_37 (by decide) ?_
  refine lv_icmp_ge (tgt := 86) hx hb dX5_flow_38 (by decide) (fun c1 => ?_) (fun c1 => ?_)
  · replace hf := it_t c1 hf
    cases hf
    exact r_vret C hP hS dX5_flow_86
  · replace hf := it_f c1 hf
    refine lv_iconst (v := 1) hx hb dX5_flow_41 (by decide) ?_
    refine lv_istore (lv' := [(4, .int 1), (0, .ref (ea E b)), (1, .int x1), (2, .int x2), (3, .int x3)]) hx hb dX5_flow_42 hl (by decide) rfl (fun ls hl => ?_)
    exact b_fX5_flow_44 hfb C rec36 hr36 FU σ x1 x2 x3 1 hf H locs ls hP hS (lv_sub hl [1, 2, 3, 4, 0] rfl)
def fX5_flow_36 (b : Nat) : Nat → St → Int32 → Int32 → Int32 → Option St
  | 0 => fun _ _ _ _ => none
  | n + 1 => fun σ x1 x2 x3 => fX5_flow_36B b (fX5_flow_36 b n) σ x1 x2 x3
theorem b_fX5_flow_36 {E : Ev} {l : Launch} {p : Program} {e : Env} {s : State} {m : MethodId} {args : Array Value} {below : List Frame} {meth : Method} {c : Code} {b : Nat} (hfb : fV b) (C : CX true E RX5 cX5_flow 6 none p s m args meth c) {sr : St} : ∀ (n : Nat) (σ : St) (x1 : Int32) (x2 : Int32) (x3 : Int32), fX5_flow_36 b n σ x1 x2 x3 = some sr → GW true l (rmD 5) E 6 p e s m args below meth c (MQ below (QV true E sr s.heap.size) args s 0 0 (aW true E s.heap.size)) σ 36 [(0, .ref (ea E b)), (1, .int x1), (2, .int x2), (3, .int x3)] [] := by
  intro n
  induction n with
  | zero => intro σ x1 x2 x3 hf; have hf : (none : Option _) = some _ := hf; cases hf
  | succ n ih => intro σ x1 x2 x3 hf; exact b_fX5_flow_36B hfb C (fX5_flow_36 b n) ih σ x1 x2 x3 hf
def fX5_flow_20 (b : Nat) (σ : St) (y0 : Int32) : Option St :=
(if (σ b 5) ≤ 0 then
fX5_flow_36 b FU σ y0 0 0
else
fX5_flow_36 b FU σ y0 5 0)
set_option maxHeartbeats 4000000 in
theorem b_fX5_flow_20 {E : Ev} {l : Launch} {p : Program} {e : Env} {s : State} {m : MethodId} {args : Array Value} {below : List Frame} {meth : Method} {c : Code} {b : Nat} (hfb : fV b) (C : CX true E RX5 cX5_flow 6 none p s m args meth c) {sr : St} : ∀ (σ : St) (y0 : Int32), fX5_flow_20 b σ y0 = some sr → GW true l (rmD 5) E 6 p e s m args below meth c (MQ below (QV true E sr s.heap.size) args s 0 0 (aW true E s.heap.size)) σ 20 [(0, .ref (ea E b))] [.int y0] := by
  intro σ y0 hf H locs ls hP hS hl
  obtain ⟨hx, hb, hr, hml, hown, hts, hlocks, hK, hX, hj⟩ := id C
  unfold fX5_flow_20 at hf
  refine lv_istore_n (lv' := [(1, .int y0), (0, .ref (ea E b))]) hx hb dX5_flow_20 rfl hl (by decide) rfl (fun ls hl => ?_)
  refine lv_aload_n hx hb dX5_flow_21 rfl (lv_at hl 1 rfl) ?_
  refine r_get (k := 5) (v := .int (σ b 5)) C hP (oV hfb) rfl iX5 (by decide) wm_t102 rfl rfl dX5_flow_22 ?_
  refine lv_if_le (tgt := 32) hx hb dX5_flow_25 (by decide) (fun c1 => ?_) (fun c1 => ?_)
  · replace hf := it_t c1 hf
    refine lv_iconst (v := 0) hx hb dX5_flow_32 (by decide) ?_
    refine lv_istore_n (lv' := [(2, .int 0), (1, .int y0), (0, .ref (ea E b))]) hx hb dX5_flow_33 rfl hl (by decide) rfl (fun ls hl => ?_)
    refine lv_iconst (v := 0) hx hb dX5_flow_34 (by decide) ?_
    refine lv_istore_n (lv' := [(3, .int 0), (2, .int 0), (1, .int y0), (0, .ref (ea E b))]) hx hb dX5_flow_35 rfl hl (by decide) rfl (fun ls hl => ?_)
    exact b_fX5_flow_36 hfb C FU σ y0 0 0 hf H locs ls hP hS (lv_sub hl [3, 2, 1, 0] rfl)
  · replace hf := it_f c1 hf
    refine lv_iconst (v := 5) hx hb dX5_flow_28 (by decide) ?_
    refine lv_goto (tgt := 33) hx hb dX5_flow_29 (by decide) ?_
    refine lv_istore_n (lv' := [(2, .int 5), (1, .int y0), (0, .ref (ea E b))]) hx hb dX5_flow_33 rfl hl (by decide) rfl (fun ls hl => ?_)
    refine lv_iconst (v := 0) hx hb dX5_flow_34 (by decide) ?_
    refine lv_istore_n (lv' := [(3, .int 0), (2, .int 5), (1, .int y0), (0, .ref (ea E b))]) hx hb dX5_flow_35 rfl hl (by decide) rfl (fun ls hl => ?_)
    exact b_fX5_flow_36 hfb C FU σ y0 5 0 hf H locs ls hP hS (lv_sub hl [3, 2, 1, 0] rfl)
def fX5_flow (b : Nat) (σ : St) : Option St :=
(if (σ b 5) = 0 then
some σ
else
(if (σ b 5) ≤ 0 then
fX5_flow_20 b σ (-1)
else
fX5_flow_20 b σ 1))
set_option maxHeartbeats 4000000 in
theorem c_fX5_flow {E : Ev} {l : Launch} {b : Nat} (hfb : fV b) (hj : jW true E) (σ : St) (sz : Nat) {sr : St} (hf : fX5_flow b σ = some sr) : Met l yX5_flow (Cond.code yX5_flow cX5_flow 6 none :: gT) (rmD 5) (va_Pc [.ref (ea E b)] (preW true E σ sz)) (QV true E sr sz) 0 0 (aW true E sz) := by
  refine r_entry (QV true E sr) hj (by decide) [.ref (ea E b)] (Nat.le_of_ble_eq_true rfl) (fun p e s m args below meth c C => ?_)
  intro H locs ls hP hS hl
  have hl : lv_has ls 6 [(0, .ref (ea E b))] := hl
  obtain ⟨hx, hb, hr, hml, hown, hts, hlocks, hK, hX, hj⟩ := id C
  unfold fX5_flow at hf
  refine lv_aload_n hx hb dX5_flow_0 rfl (lv_at hl 0 rfl) ?_
  refine r_get (k := 5) (v := .int (σ b 5)) C hP (oV hfb) rfl iX5 (by decide) wm_t102 rfl rfl dX5_flow_1 ?_
  refine lv_if_ne (tgt := 8) hx hb dX5_flow_4 (by decide) (fun c1 => ?_) (fun c1 => ?_)
  · replace hf := it_f c1 hf
    refine lv_aload_n hx hb dX5_flow_8 rfl (lv_at hl 0 rfl) ?_
    refine r_get (k := 5) (v := .int (σ b 5)) C hP (oV hfb) rfl iX5 (by decide) wm_t102 rfl rfl dX5_flow_9 ?_
    refine lv_if_le (tgt := 19) hx hb dX5_flow_12 (by decide) (fun c2 => ?_) (fun c2 => ?_)
    · replace hf := it_t c2 hf
      refine lv_iconst (v := (-1)) hx hb dX5_flow_19 (by decide) ?_
      exact b_fX5_flow_20 hfb C σ (-1) hf H locs ls hP hS (lv_sub hl [0] rfl)
    · replace hf := it_f c2 hf
      refine lv_iconst (v := 1) hx hb dX5_flow_15 (by decide) ?_
      refine lv_goto (tgt := 20) hx hb dX5_flow_16 (by decide) ?_
      exact b_fX5_flow_20 hfb C σ 1 hf H locs ls hP hS (lv_sub hl [0] rfl)
  · replace hf := it_t c1 hf
    cases hf
    exact r_vret C hP hS dX5_flow_7
def fX10_let (σ : St) (a0 : Int32) (a1 : Int32) : Option (Int32 × St) :=
(if (fX10_within a0 21) = 0 then
some ((-1), σ)
else
(if (fX10_within a1 2) = 0 then
some ((-1), σ)
else
(cv (fX1_findWays σ) fun σ4 =>
(if a1 = 0 then
(cq (fX1_waysAbove σ4 a0) fun r8 =>
some (r8, σ4))
else
(cq (fX1_firstAbove σ4 a0) fun r6 =>
some (r6, σ4))))))
set_option maxHeartbeats 4000000 in
theorem c_fX10_let {E : Ev} {l : Launch} (hj : jW true E) (σ : St) (sz : Nat) (a0 : Int32) (a1 : Int32) {rr : Int32} {sr : St} (hf : fX10_let σ a0 a1 = some (rr, sr)) : Met l yX10_let (Cond.code yX10_let cX10_let 3 (some .int) :: gT) (rmD 6) (va_Pc [.ref (ea E 0), .int a0, .int a1] (preW true E σ sz)) (QI true E rr sr sz) 0 0 (aW true E sz) := by
  refine r_entry (QI true E rr sr) hj (by decide) [.ref (ea E 0), .int a0, .int a1] (Nat.le_of_ble_eq_true rfl) (fun p e s m args below meth c C => ?_)
  intro H locs ls hP hS hl
  have hl : lv_has ls 3 [(0, .ref (ea E 0)), (1, .int a0), (2, .int a1)] := hl
  obtain ⟨hx, hb, hr, hml, hown, hts, hlocks, hK, hX, hj⟩ := id C
  unfold fX10_let at hf
  refine lv_iload_n hx hb dX10_let_0 rfl (lv_at hl 1 rfl) ?_
  refine lv_bipush (v := 21) hx hb dX10_let_1 (by decide) ?_
  refine r_cSi (n := 2) (As := [.int a0, .int 21]) (rest := []) C (c_fX10_within hj σ H.size a0 21) gs_RX10_85 (by decide +kernel) (rmD_le (by decide) (by decide)) rfl rfl (Nat.le_of_ble_eq_true rfl) dX10_let_3 hP hS hl.1 (fun H locs hP hS => ?_)
  refine lv_if_eq (tgt := 17) hx hb dX10_let_6 (by decide) (fun c1 => ?_) (fun c1 => ?_)
  · replace hf := it_t c1 hf
    refine lv_iconst (v := (-1)) hx hb dX10_let_17 (by decide) ?_
    cases hf
    exact r_iret C hP hS dX10_let_18
  · replace hf := it_f c1 hf
    refine lv_iload_n hx hb dX10_let_9 rfl (lv_at hl 2 rfl) ?_
    refine lv_iconst (v := 2) hx hb dX10_let_10 (by decide) ?_
    refine r_cSi (n := 2) (As := [.int a1, .int 2]) (rest := []) C (c_fX10_within hj σ H.size a1 2) gs_RX10_85 (by decide +kernel) (rmD_le (by decide) (by decide)) rfl rfl (Nat.le_of_ble_eq_true rfl) dX10_let_11 hP hS hl.1 (fun H locs hP hS => ?_)
    refine lv_if_ne (tgt := 19) hx hb dX10_let_14 (by decide) (fun c2 => ?_) (fun c2 => ?_)
    · replace hf := it_f c2 hf
      refine lv_aload_n hx hb dX10_let_19 rfl (lv_at hl 0 rfl) ?_
      refine r_get (k := 6) (v := .ref (ea E 30)) C hP oC_0 rfl iX10 (by decide) wm_t300 rfl rfl dX10_let_20 ?_
      obtain ⟨σ4, hc3, hf⟩ := cv_e hf
      refine r_cVv (n := 0) (As := []) (rest := []) C (c_fX1_findWays hj σ H.size hc3) oC_30 rfl gv_RX10_286 (by decide +kernel) (rmD_le (by decide) (by decide)) rfl rfl (Nat.le_of_ble_eq_true rfl) dX10_let_23 hP hS hl.1 (fun H locs hP hS => ?_)
      refine lv_iload_n hx hb dX10_let_26 rfl (lv_at hl 2 rfl) ?_
      refine lv_if_ne (tgt := 41) hx hb dX10_let_27 (by decide) (fun c5 => ?_) (fun c5 => ?_)
      · replace hf := it_f c5 hf
        refine lv_aload_n hx hb dX10_let_41 rfl (lv_at hl 0 rfl) ?_
        refine r_get (k := 6) (v := .ref (ea E 30)) C hP oC_0 rfl iX10 (by decide) wm_t300 rfl rfl dX10_let_42 ?_
        refine lv_iload_n hx hb dX10_let_45 rfl (lv_at hl 1 rfl) ?_
        obtain ⟨r6, hc7, hf⟩ := cq_e hf
        refine r_cVi (n := 1) (As := [.int a0]) (rest := []) C (c_fX1_firstAbove hj σ4 H.size a0 hc7) oC_30 rfl gv_RX10_292 (by decide +kernel) (rmD_le (by decide) (by decide)) rfl rfl (Nat.le_of_ble_eq_true rfl) dX10_let_46 hP hS hl.1 (fun H locs hP hS => ?_)
        cases hf
        exact r_iret C hP hS dX10_let_49
      · replace hf := it_t c5 hf
        refine lv_aload_n hx hb dX10_let_30 rfl (lv_at hl 0 rfl) ?_
        refine r_get (k := 6) (v := .ref (ea E 30)) C hP oC_0 rfl iX10 (by decide) wm_t300 rfl rfl dX10_let_31 ?_
        refine lv_iload_n hx hb dX10_let_34 rfl (lv_at hl 1 rfl) ?_
        obtain ⟨r8, hc9, hf⟩ := cq_e hf
        refine r_cVi (n := 1) (As := [.int a0]) (rest := []) C (c_fX1_waysAbove hj σ4 H.size a0 hc9) oC_30 rfl gv_RX10_289 (by decide +kernel) (rmD_le (by decide) (by decide)) rfl rfl (Nat.le_of_ble_eq_true rfl) dX10_let_35 hP hS hl.1 (fun H locs hP hS => ?_)
        refine lv_goto (tgt := 49) hx hb dX10_let_38 (by decide) ?_
        cases hf
        exact r_iret C hP hS dX10_let_49
    · replace hf := it_t c2 hf
      refine lv_iconst (v := (-1)) hx hb dX10_let_17 (by decide) ?_
      cases hf
      exact r_iret C hP hS dX10_let_18
def fX5_passHour_80 (b : Nat) (σ : St) (x3 : Int32) : Option St :=
(nmS (st_put σ b 6 x3) fun σ1 =>
some σ1)
set_option maxHeartbeats 4000000 in
theorem b_fX5_passHour_80 {E : Ev} {l : Launch} {p : Program} {e : Env} {s : State} {m : MethodId} {args : Array Value} {below : List Frame} {meth : Method} {c : Code} {b : Nat} (hfb : fV b) (C : CX true E RX5 cX5_passHour 4 none p s m args meth c) {sr : St} : ∀ (σ : St) (x3 : Int32), fX5_passHour_80 b σ x3 = some sr → GW true l (rmD 6) E 4 p e s m args below meth c (MQ below (QV true E sr s.heap.size) args s 0 0 (aW true E s.heap.size)) σ 80 [(0, .ref (ea E b)), (3, .int x3)] [] := by
  intro σ x3 hf H locs ls hP hS hl
  obtain ⟨hx, hb, hr, hml, hown, hts, hlocks, hK, hX, hj⟩ := id C
  unfold fX5_passHour_80 at hf
  refine lv_aload_n hx hb dX5_passHour_80 rfl (lv_at hl 0 rfl) ?_
  refine lv_iload_n hx hb dX5_passHour_81 rfl (lv_at hl 1 rfl) ?_
  refine r_put (k := 6) (x := x3) C hP hS tyX5 tyX5_ok nmX5 (oV hfb) rfl iX5 (by decide) wm_t104 rfl rfl sV_6 rfl rfl (Nat.le_of_ble_eq_true rfl) dX5_passHour_82 (fun H locs hP hS => ?_)
  obtain ⟨σ1, eσ1, hf⟩ := nmS_e hf
  rw [← eσ1] at hP
  cases hf
  exact r_vret C hP hS dX5_passHour_85
def fX5_passHour (b : Nat) (σ : St) (a1 : Int32) (a2 : Int32) : Option St :=
(if (σ b 3) = 0 then
some σ
else
(if (σ b 6) = (-1) then
(cv (fX8_shake (b + 2) σ a1) fun σ4 =>
(cv (fX8_sinkWater (b + 2) σ4) fun σ6 =>
(cv (fX8_turnToSoup (b + 2) σ6) fun σ8 =>
(cq (fX5_leanNow b σ8) fun r9 =>
(nmS (st_put σ8 b 5 r9) fun σ11 =>
(if 60 < (if 0 ≤ (σ11 b 5) then (σ11 b 5) else 0 - (σ11 b 5)) then
fX5_passHour_80 b σ11 a2
else
(cb (fX5_roll b σ11 a1) fun r13 σ15 =>
(if ((if 0 ≤ (σ11 b 5) then (σ11 b 5) else 0 - (σ11 b 5)) + r13) ≤ (σ15 b 2) then
(cv (fX5_flow b σ15) fun σ18 =>
some σ18)
else
fX5_passHour_80 b σ15 a2))))))))
else
some σ))
set_option maxHeartbeats 4000000 in
theorem c_fX5_passHour {E : Ev} {l : Launch} {b : Nat} (hfb : fV b) (hj : jW true E) (σ : St) (sz : Nat) (a1 : Int32) (a2 : Int32) {sr : St} (hf : fX5_passHour b σ a1 a2 = some sr) : Met l yX5_passHour (Cond.code yX5_passHour cX5_passHour 4 none :: gT) (rmD 6) (va_Pc [.ref (ea E b), .ref (ea E 28), .int a1, .int a2] (preW true E σ sz)) (QV true E sr sz) 0 0 (aW true E sz) := by
  refine r_entry (QV true E sr) hj (by decide) [.ref (ea E b), .ref (ea E 28), .int a1, .int a2] (Nat.le_of_ble_eq_true rfl) (fun p e s m args below meth c C => ?_)
  intro H locs ls hP hS hl
  have hl : lv_has ls 4 [(0, .ref (ea E b)), (1, .ref (ea E 28)), (2, .int a1), (3, .int a2)] := hl
  obtain ⟨hx, hb, hr, hml, hown, hts, hlocks, hK, hX, hj⟩ := id C
  unfold fX5_passHour at hf
  refine lv_aload_n hx hb dX5_passHour_0 rfl (lv_at hl 0 rfl) ?_
  refine r_get (k := 3) (v := .int (σ b 3)) C hP (oV hfb) rfl iX5 (by decide) wm_t98 rfl rfl dX5_passHour_1 ?_
  refine lv_if_eq (tgt := 15) hx hb dX5_passHour_4 (by decide) (fun c1 => ?_) (fun c1 => ?_)
  · replace hf := it_t c1 hf
    cases hf
    exact r_vret C hP hS dX5_passHour_15
  · replace hf := it_f c1 hf
    refine lv_aload_n hx hb dX5_passHour_7 rfl (lv_at hl 0 rfl) ?_
    refine r_get (k := 6) (v := .int (σ b 6)) C hP (oV hfb) rfl iX5 (by decide) wm_t104 rfl rfl dX5_passHour_8 ?_
    refine lv_iconst (v := (-1)) hx hb dX5_passHour_11 (by decide) ?_
    refine lv_icmp_eq (tgt := 16) hx hb dX5_passHour_12 (by decide) (fun c2 => ?_) (fun c2 => ?_)
    · replace hf := it_t c2 hf
      refine lv_aload_n hx hb dX5_passHour_16 rfl (lv_at hl 0 rfl) ?_
      refine r_get (k := 0) (v := .ref (ea E (b + 2))) C hP (oV hfb) rfl iX5 (by decide) wm_t94 rfl rfl dX5_passHour_17 ?_
      refine lv_iload_n hx hb dX5_passHour_20 rfl (lv_at hl 2 rfl) ?_
      obtain ⟨σ4, hc3, hf⟩ := cv_e hf
      refine r_cVv (n := 1) (As := [.int a1]) (rest := []) C (c_fX8_shake (fV_S hfb) hj σ H.size a1 hc3) (oS (fV_S hfb)) rfl gv_RX5_74 (by decide +kernel) (rmD_le (by decide) (by decide)) rfl rfl (Nat.le_of_ble_eq_true rfl) dX5_passHour_21 hP hS hl.1 (fun H locs hP hS => ?_)
      refine lv_aload_n hx hb dX5_passHour_24 rfl (lv_at hl 0 rfl) ?_
      refine r_get (k := 0) (v := .ref (ea E (b + 2))) C hP (oV hfb) rfl iX5 (by decide) wm_t94 rfl rfl dX5_passHour_25 ?_
      refine lv_aload_n hx hb dX5_passHour_28 rfl (lv_at hl 1 rfl) ?_
      obtain ⟨σ6, hc5, hf⟩ := cv_e hf
      refine r_cVv (n := 1) (As := [.ref (ea E 28)]) (rest := []) C (c_fX8_sinkWater (fV_S hfb) hj σ4 H.size hc5) (oS (fV_S hfb)) rfl gv_RX5_78 (by decide +kernel) (rmD_le (by decide) (by decide)) rfl rfl (Nat.le_of_ble_eq_true rfl) dX5_passHour_29 hP hS hl.1 (fun H locs hP hS => ?_)
      refine lv_aload_n hx hb dX5_passHour_32 rfl (lv_at hl 0 rfl) ?_
      refine r_get (k := 0) (v := .ref (ea E (b + 2))) C hP (oV hfb) rfl iX5 (by decide) wm_t94 rfl rfl dX5_passHour_33 ?_
      refine lv_aload_n hx hb dX5_passHour_36 rfl (lv_at hl 1 rfl) ?_
      obtain ⟨σ8, hc7, hf⟩ := cv_e hf
      refine r_cVv (n := 1) (As := [.ref (ea E 28)]) (rest := []) C (c_fX8_turnToSoup (fV_S hfb) hj σ6 H.size hc7) (oS (fV_S hfb)) rfl gv_RX5_82 (by decide +kernel) (rmD_le (by decide) (by decide)) rfl rfl (Nat.le_of_ble_eq_true rfl) dX5_passHour_37 hP hS hl.1 (fun H locs hP hS => ?_)
      refine lv_aload_n hx hb dX5_passHour_40 rfl (lv_at hl 0 rfl) ?_
      refine lv_aload_n hx hb dX5_passHour_41 rfl (lv_at hl 0 rfl) ?_
      obtain ⟨r9, hc10, hf⟩ := cq_e hf
      refine r_cVi (n := 0) (As := []) (rest := [.ref (ea E b)]) C (c_fX5_leanNow hfb hj σ8 H.size hc10) (oV hfb) rfl gv_RX5_85 (by decide +kernel) (rmD_le (by decide) (by decide)) rfl rfl (Nat.le_of_ble_eq_true rfl) dX5_passHour_42 hP hS hl.1 (fun H locs hP hS => ?_)
      refine r_put (k := 5) (x := r9) C hP hS tyX5 tyX5_ok nmX5 (oV hfb) rfl iX5 (by decide) wm_t102 rfl rfl sV_5 rfl rfl (Nat.le_of_ble_eq_true rfl) dX5_passHour_45 (fun H locs hP hS => ?_)
      obtain ⟨σ11, eσ11, hf⟩ := nmS_e hf
      rw [← eσ11] at hP
      refine lv_aload_n hx hb dX5_passHour_48 rfl (lv_at hl 0 rfl) ?_
      refine r_get (k := 5) (v := .int (σ11 b 5)) C hP (oV hfb) rfl iX5 (by decide) wm_t102 rfl rfl dX5_passHour_49 ?_
      refine va_mabs hx hb (hml.trans hl.1.symm) hown (hts _ wm_t740) (hts _ wm_t741) (hts _ wm_t4) (hts _ wm_t742) (by decide) (Nat.le_of_ble_eq_true rfl) (Nat.zero_le _) (Nat.zero_le _) dX5_passHour_52 ?_
      refine lv_bipush (v := 60) hx hb dX5_passHour_55 (by decide) ?_
      refine lv_icmp_gt (tgt := 80) hx hb dX5_passHour_57 (by decide) (fun c12 => ?_) (fun c12 => ?_)
      · replace hf := it_t c12 hf
        exact b_fX5_passHour_80 hfb C σ11 a2 hf H locs ls hP hS (lv_sub hl [0, 3] rfl)
      · replace hf := it_f c12 hf
        refine lv_aload_n hx hb dX5_passHour_60 rfl (lv_at hl 0 rfl) ?_
        refine r_get (k := 5) (v := .int (σ11 b 5)) C hP (oV hfb) rfl iX5 (by decide) wm_t102 rfl rfl dX5_passHour_61 ?_
        refine va_mabs hx hb (hml.trans hl.1.symm) hown (hts _ wm_t740) (hts _ wm_t741) (hts _ wm_t4) (hts _ wm_t742) (by decide) (Nat.le_of_ble_eq_true rfl) (Nat.zero_le _) (Nat.zero_le _) dX5_passHour_64 ?_
        refine lv_aload_n hx hb dX5_passHour_67 rfl (lv_at hl 0 rfl) ?_
        refine lv_iload_n hx hb dX5_passHour_68 rfl (lv_at hl 2 rfl) ?_
        obtain ⟨r13, σ15, hc14, hf⟩ := cb_e hf
        refine r_cVi (n := 1) (As := [.int a1]) (rest := [.int (if 0 ≤ (σ11 b 5) then (σ11 b 5) else 0 - (σ11 b 5))]) C (c_fX5_roll hfb hj σ11 H.size a1 hc14) (oV hfb) rfl gv_RX5_92 (by decide +kernel) (rmD_le (by decide) (by decide)) rfl rfl (Nat.le_of_ble_eq_true rfl) dX5_passHour_69 hP hS hl.1 (fun H locs hP hS => ?_)
        refine lv_iadd hx hb dX5_passHour_72 ?_
        refine lv_aload_n hx hb dX5_passHour_73 rfl (lv_at hl 0 rfl) ?_
        refine r_get (k := 2) (v := .int (σ15 b 2)) C hP (oV hfb) rfl iX5 (by decide) wm_t97 rfl rfl dX5_passHour_74 ?_
        refine lv_icmp_le (tgt := 86) hx hb dX5_passHour_77 (by decide) (fun c16 => ?_) (fun c16 => ?_)
        · replace hf := it_t c16 hf
          refine lv_aload_n hx hb dX5_passHour_86 rfl (lv_at hl 0 rfl) ?_
          obtain ⟨σ18, hc17, hf⟩ := cv_e hf
          refine r_cVv (n := 0) (As := []) (rest := []) C (c_fX5_flow hfb hj σ15 H.size hc17) (oV hfb) rfl gv_RX5_95 (by decide +kernel) (rmD_le (by decide) (by decide)) rfl rfl (Nat.le_of_ble_eq_true rfl) dX5_passHour_87 hP hS hl.1 (fun H locs hP hS => ?_)
          cases hf
          exact r_vret C hP hS dX5_passHour_90
        · replace hf := it_f c16 hf
          exact b_fX5_passHour_80 hfb C σ15 a2 hf H locs ls hP hS (lv_sub hl [0, 3] rfl)
    · replace hf := it_f c2 hf
      cases hf
      exact r_vret C hP hS dX5_passHour_15
def fX10_hours_27B (rec27 : St → Int32 → Int32 → Option (Int32 × St)) (σ : St) (x1 : Int32) (x2 : Int32) : Option (Int32 × St) :=
(if x1 ≤ x2 then
some ((σ 0 12), σ)
else
(cq (fX7_rainAt σ (σ 0 12)) fun r2 =>
(cv (fX2_setTime σ r2 ((σ 0 12) - (σ 0 12) / 24 * 24)) fun σ5 =>
(cv (fX8_rainAndDry 5 σ5 r2) fun σ7 =>
(cv (fX8_sinkWater 5 σ7) fun σ9 =>
(cq (fX7_swellAt σ9 (σ9 0 12)) fun r10 =>
(cv (fX5_passHour 10 σ9 r10 (σ9 0 12)) fun σ13 =>
(nmS (st_put σ13 0 12 ((σ13 0 12) + 1)) fun σ14 =>
rec27 σ14 x1 (x2 + 1)))))))))
set_option maxHeartbeats 4000000 in
theorem b_fX10_hours_27B {E : Ev} {l : Launch} {p : Program} {e : Env} {s : State} {m : MethodId} {args : Array Value} {below : List Frame} {meth : Method} {c : Code} (C : CX true E RX10 cX10_hours 4 (some .int) p s m args meth c) {rr : Int32} {sr : St} (rec27 : St → Int32 → Int32 → Option (Int32 × St)) (hr27 : ∀ (σ : St) (x1 : Int32) (x2 : Int32), rec27 σ x1 x2 = some (rr, sr) → GW true l (rmD 7) E 4 p e s m args below meth c (MQ below (QI true E rr sr s.heap.size) args s 0 0 (aW true E s.heap.size)) σ 27 [(0, .ref (ea E 0)), (1, .int x1), (2, .int x2)] []) : ∀ (σ : St) (x1 : Int32) (x2 : Int32), fX10_hours_27B rec27 σ x1 x2 = some (rr, sr) → GW true l (rmD 7) E 4 p e s m args below meth c (MQ below (QI true E rr sr s.heap.size) args s 0 0 (aW true E s.heap.size)) σ 27 [(0, .ref (ea E 0)), (1, .int x1), (2, .int x2)] [] := by
  intro σ x1 x2 hf H locs ls hP hS hl
  obtain ⟨hx, hb, hr, hml, hown, hts, hlocks, hK, hX, hj⟩ := id C
  unfold fX10_hours_27B at hf
  refine lv_iload_n hx hb dX10_hours_27 rfl (lv_at hl 2 rfl) ?_
  refine lv_iload_n hx hb dX10_hours_28 rfl (lv_at hl 1 rfl) ?_
  refine lv_icmp_ge (tgt := 124) hx hb dX10_hours_29 (by decide) (fun c1 => ?_) (fun c1 => ?_)
  · replace hf := it_t c1 hf
    refine lv_aload_n hx hb dX10_hours_124 rfl (lv_at hl 0 rfl) ?_
    refine r_get (k := 12) (v := .int (σ 0 12)) C hP oC_0 rfl iX10 (by decide) wm_t306 rfl rfl dX10_hours_125 ?_
    cases hf
    exact r_iret C hP hS dX10_hours_128
  · replace hf := it_f c1 hf
    refine lv_aload_n hx hb dX10_hours_32 rfl (lv_at hl 0 rfl) ?_
    refine r_get (k := 0) (v := .ref (ea E 2)) C hP oC_0 rfl iX10 (by decide) wm_t294 rfl rfl dX10_hours_33 ?_
    refine lv_aload_n hx hb dX10_hours_36 rfl (lv_at hl 0 rfl) ?_
    refine r_get (k := 12) (v := .int (σ 0 12)) C hP oC_0 rfl iX10 (by decide) wm_t306 rfl rfl dX10_hours_37 ?_
    obtain ⟨r2, hc3, hf⟩ := cq_e hf
    refine r_cVi (n := 1) (As := [.int (σ 0 12)]) (rest := []) C (c_fX7_rainAt hj σ H.size (σ 0 12) hc3) oC_2 rfl gv_RX10_168 (by decide +kernel) (rmD_le (by decide) (by decide)) rfl rfl (Nat.le_of_ble_eq_true rfl) dX10_hours_40 hP hS hl.1 (fun H locs hP hS => ?_)
    refine lv_istore_n (lv' := [(3, .int r2), (0, .ref (ea E 0)), (1, .int x1), (2, .int x2)]) hx hb dX10_hours_43 rfl hl (by decide) rfl (fun ls hl => ?_)
    refine lv_aload_n hx hb dX10_hours_44 rfl (lv_at hl 1 rfl) ?_
    refine r_get (k := 5) (v := .ref (ea E 28)) C hP oC_0 rfl iX10 (by decide) wm_t299 rfl rfl dX10_hours_45 ?_
    refine lv_iload_n hx hb dX10_hours_48 rfl (lv_at hl 0 rfl) ?_
    refine lv_aload_n hx hb dX10_hours_49 rfl (lv_at hl 1 rfl) ?_
    refine r_get (k := 12) (v := .int (σ 0 12)) C hP oC_0 rfl iX10 (by decide) wm_t306 rfl rfl dX10_hours_50 ?_
    refine lv_bipush (v := 24) hx hb dX10_hours_53 (by decide) ?_
    refine lv_irem hx hb dX10_hours_55 (by decide) ?_
    obtain ⟨σ5, hc4, hf⟩ := cv_e hf
    refine r_cVv (n := 2) (As := [.int r2, .int ((σ 0 12) - (σ 0 12) / 24 * 24)]) (rest := []) C (c_fX2_setTime hj σ H.size r2 ((σ 0 12) - (σ 0 12) / 24 * 24) hc4) oC_28 rfl gv_RX10_171 (by decide +kernel) (rmD_le (by decide) (by decide)) rfl rfl (Nat.le_of_ble_eq_true rfl) dX10_hours_56 hP hS hl.1 (fun H locs hP hS => ?_)
    refine lv_aload_n hx hb dX10_hours_59 rfl (lv_at hl 1 rfl) ?_
    refine r_get (k := 1) (v := .ref (ea E 5)) C hP oC_0 rfl iX10 (by decide) wm_t295 rfl rfl dX10_hours_60 ?_
    refine lv_aload_n hx hb dX10_hours_63 rfl (lv_at hl 1 rfl) ?_
    refine r_get (k := 5) (v := .ref (ea E 28)) C hP oC_0 rfl iX10 (by decide) wm_t299 rfl rfl dX10_hours_64 ?_
    refine lv_iload_n hx hb dX10_hours_67 rfl (lv_at hl 0 rfl) ?_
    obtain ⟨σ7, hc6, hf⟩ := cv_e hf
    refine r_cVv (n := 2) (As := [.ref (ea E 28), .int r2]) (rest := []) C (c_fX8_rainAndDry fS_5 hj σ5 H.size r2 hc6) (oS fS_5) rfl gv_RX10_175 (by decide +kernel) (rmD_le (by decide) (by decide)) rfl rfl (Nat.le_of_ble_eq_true rfl) dX10_hours_68 hP hS hl.1 (fun H locs hP hS => ?_)
    refine lv_aload_n hx hb dX10_hours_71 rfl (lv_at hl 1 rfl) ?_
    refine r_get (k := 1) (v := .ref (ea E 5)) C hP oC_0 rfl iX10 (by decide) wm_t295 rfl rfl dX10_hours_72 ?_
    refine lv_aload_n hx hb dX10_hours_75 rfl (lv_at hl 1 rfl) ?_
    refine r_get (k := 5) (v := .ref (ea E 28)) C hP oC_0 rfl iX10 (by decide) wm_t299 rfl rfl dX10_hours_76 ?_
    obtain ⟨σ9, hc8, hf⟩ := cv_e hf
    refine r_cVv (n := 1) (As := [.ref (ea E 28)]) (rest := []) C (c_fX8_sinkWater fS_5 hj σ7 H.size hc8) (oS fS_5) rfl gv_RX10_179 (by decide +kernel) (rmD_le (by decide) (by decide)) rfl rfl (Nat.le_of_ble_eq_true rfl) dX10_hours_79 hP hS hl.1 (fun H locs hP hS => ?_)
    refine lv_aload_n hx hb dX10_hours_82 rfl (lv_at hl 1 rfl) ?_
    refine r_get (k := 2) (v := .ref (ea E 10)) C hP oC_0 rfl iX10 (by decide) wm_t296 rfl rfl dX10_hours_83 ?_
    refine lv_aload_n hx hb dX10_hours_86 rfl (lv_at hl 1 rfl) ?_
    refine r_get (k := 5) (v := .ref (ea E 28)) C hP oC_0 rfl iX10 (by decide) wm_t299 rfl rfl dX10_hours_87 ?_
    refine lv_aload_n hx hb dX10_hours_90 rfl (lv_at hl 1 rfl) ?_
    refine r_get (k := 0) (v := .ref (ea E 2)) C hP oC_0 rfl iX10 (by decide) wm_t294 rfl rfl dX10_hours_91 ?_
    refine lv_aload_n hx hb dX10_hours_94 rfl (lv_at hl 1 rfl) ?_
    refine r_get (k := 12) (v := .int (σ9 0 12)) C hP oC_0 rfl iX10 (by decide) wm_t306 rfl rfl dX10_hours_95 ?_
    obtain ⟨r10, hc11, hf⟩ := cq_e hf
    refine r_cVi (n := 1) (As := [.int (σ9 0 12)]) (rest := [.ref (ea E 28), .ref (ea E 10)]) C (c_fX7_swellAt hj σ9 H.size (σ9 0 12) hc11) oC_2 rfl gv_RX10_183 (by decide +kernel) (rmD_le (by decide) (by decide)) rfl rfl (Nat.le_of_ble_eq_true rfl) dX10_hours_98 hP hS hl.1 (fun H locs hP hS => ?_)
    refine lv_aload_n hx hb dX10_hours_101 rfl (lv_at hl 1 rfl) ?_
    refine r_get (k := 12) (v := .int (σ9 0 12)) C hP oC_0 rfl iX10 (by decide) wm_t306 rfl rfl dX10_hours_102 ?_
    obtain ⟨σ13, hc12, hf⟩ := cv_e hf
    refine r_cVv (n := 3) (As := [.ref (ea E 28), .int r10, .int (σ9 0 12)]) (rest := []) C (c_fX5_passHour fV_10 hj σ9 H.size r10 (σ9 0 12) hc12) (oV fV_10) rfl gv_RX10_186 (by decide +kernel) (rmD_le (by decide) (by decide)) rfl rfl (Nat.le_of_ble_eq_true rfl) dX10_hours_105 hP hS hl.1 (fun H locs hP hS => ?_)
    refine lv_aload_n hx hb dX10_hours_108 rfl (lv_at hl 1 rfl) ?_
    refine lv_dup hx hb dX10_hours_109 rfl ?_
    refine r_get (k := 12) (v := .int (σ13 0 12)) C hP oC_0 rfl iX10 (by decide) wm_t306 rfl rfl dX10_hours_110 ?_
    refine lv_iconst (v := 1) hx hb dX10_hours_113 (by decide) ?_
    refine lv_iadd hx hb dX10_hours_114 ?_
    refine r_put (k := 12) (x := ((σ13 0 12) + 1)) C hP hS tyX10 tyX10_ok nmX10 oC_0 rfl iX10 (by decide) wm_t306 rfl rfl sC_0_12 rfl rfl (Nat.le_of_ble_eq_true rfl) dX10_hours_115 (fun H locs hP hS => ?_)
    obtain ⟨σ14, eσ14, hf⟩ := nmS_e hf
    rw [← eσ14] at hP
    refine lv_iinc (v := (x2 + 1)) (lv' := [(2, .int (x2 + 1)), (3, .int r2), (0, .ref (ea E 0)), (1, .int x1)]) hx hb dX10_hours_118 hl (k := 3) rfl rfl (by decide) rfl (fun ls hl => ?_)
    refine lv_goto (tgt := 27) hx hb dX10_hours_121 (by decide) ?_
    exact hr27 σ14 x1 (x2 + 1) hf H locs ls hP hS (lv_sub hl [2, 3, 0] rfl)
def fX10_hours_27 : Nat → St → Int32 → Int32 → Option (Int32 × St)
  | 0 => fun _ _ _ => none
  | n + 1 => fun σ x1 x2 => fX10_hours_27B (fX10_hours_27 n) σ x1 x2
theorem b_fX10_hours_27 {E : Ev} {l : Launch} {p : Program} {e : Env} {s : State} {m : MethodId} {args : Array Value} {below : List Frame} {meth : Method} {c : Code} (C : CX true E RX10 cX10_hours 4 (some .int) p s m args meth c) {rr : Int32} {sr : St} : ∀ (n : Nat) (σ : St) (x1 : Int32) (x2 : Int32), fX10_hours_27 n σ x1 x2 = some (rr, sr) → GW true l (rmD 7) E 4 p e s m args below meth c (MQ below (QI true E rr sr s.heap.size) args s 0 0 (aW true E s.heap.size)) σ 27 [(0, .ref (ea E 0)), (1, .int x1), (2, .int x2)] [] := by
  intro n
  induction n with
  | zero => intro σ x1 x2 hf; have hf : (none : Option _) = some _ := hf; cases hf
  | succ n ih => intro σ x1 x2 hf; exact b_fX10_hours_27B C (fX10_hours_27 n) ih σ x1 x2 hf
def fX10_hours (σ : St) (a0 : Int32) : Option (Int32 × St) :=
(if a0 < 1 then
some ((-1), σ)
else
(if 48 < a0 then
some ((-1), σ)
else
(if ((σ 0 12) + a0) ≤ 719 then
fX10_hours_27 FU σ a0 0
else
some ((-1), σ))))
set_option maxHeartbeats 4000000 in
theorem c_fX10_hours {E : Ev} {l : Launch} (hj : jW true E) (σ : St) (sz : Nat) (a0 : Int32) {rr : Int32} {sr : St} (hf : fX10_hours σ a0 = some (rr, sr)) : Met l yX10_hours (Cond.code yX10_hours cX10_hours 4 (some .int) :: gT) (rmD 7) (va_Pc [.ref (ea E 0), .int a0] (preW true E σ sz)) (QI true E rr sr sz) 0 0 (aW true E sz) := by
  refine r_entry (QI true E rr sr) hj (by decide) [.ref (ea E 0), .int a0] (Nat.le_of_ble_eq_true rfl) (fun p e s m args below meth c C => ?_)
  intro H locs ls hP hS hl
  have hl : lv_has ls 4 [(0, .ref (ea E 0)), (1, .int a0)] := hl
  obtain ⟨hx, hb, hr, hml, hown, hts, hlocks, hK, hX, hj⟩ := id C
  unfold fX10_hours at hf
  refine lv_iload_n hx hb dX10_hours_0 rfl (lv_at hl 1 rfl) ?_
  refine lv_iconst (v := 1) hx hb dX10_hours_1 (by decide) ?_
  refine lv_icmp_lt (tgt := 23) hx hb dX10_hours_2 (by decide) (fun c1 => ?_) (fun c1 => ?_)
  · replace hf := it_t c1 hf
    refine lv_iconst (v := (-1)) hx hb dX10_hours_23 (by decide) ?_
    cases hf
    exact r_iret C hP hS dX10_hours_24
  · replace hf := it_f c1 hf
    refine lv_iload_n hx hb dX10_hours_5 rfl (lv_at hl 1 rfl) ?_
    refine lv_bipush (v := 48) hx hb dX10_hours_6 (by decide) ?_
    refine lv_icmp_gt (tgt := 23) hx hb dX10_hours_8 (by decide) (fun c2 => ?_) (fun c2 => ?_)
    · replace hf := it_t c2 hf
      refine lv_iconst (v := (-1)) hx hb dX10_hours_23 (by decide) ?_
      cases hf
      exact r_iret C hP hS dX10_hours_24
    · replace hf := it_f c2 hf
      refine lv_aload_n hx hb dX10_hours_11 rfl (lv_at hl 0 rfl) ?_
      refine r_get (k := 12) (v := .int (σ 0 12)) C hP oC_0 rfl iX10 (by decide) wm_t306 rfl rfl dX10_hours_12 ?_
      refine lv_iload_n hx hb dX10_hours_15 rfl (lv_at hl 1 rfl) ?_
      refine lv_iadd hx hb dX10_hours_16 ?_
      refine lv_sipush (v := 719) hx hb dX10_hours_17 (by decide) ?_
      refine lv_icmp_le (tgt := 25) hx hb dX10_hours_20 (by decide) (fun c3 => ?_) (fun c3 => ?_)
      · replace hf := it_t c3 hf
        refine lv_iconst (v := 0) hx hb dX10_hours_25 (by decide) ?_
        refine lv_istore_n (lv' := [(2, .int 0), (0, .ref (ea E 0)), (1, .int a0)]) hx hb dX10_hours_26 rfl hl (by decide) rfl (fun ls hl => ?_)
        exact b_fX10_hours_27 C FU σ a0 0 hf H locs ls hP hS (lv_sub hl [1, 2, 0] rfl)
      · replace hf := it_f c3 hf
        refine lv_iconst (v := (-1)) hx hb dX10_hours_23 (by decide) ?_
        cases hf
        exact r_iret C hP hS dX10_hours_24
def fX10_staysTill_77 (σ : St) : Option (Int32 × St) :=
(if (σ 17 6) = (-1) then
some (1, σ)
else
some (0, σ))
set_option maxHeartbeats 4000000 in
theorem b_fX10_staysTill_77 {E : Ev} {l : Launch} {p : Program} {e : Env} {s : State} {m : MethodId} {args : Array Value} {below : List Frame} {meth : Method} {c : Code} (C : CX true E RX10 cX10_staysTill 3 (some .boolean) p s m args meth c) {rr : Int32} {sr : St} : ∀ (σ : St), fX10_staysTill_77 σ = some (rr, sr) → GW true l (rmD 7) E 3 p e s m args below meth c (MQ below (QI true E rr sr s.heap.size) args s 0 0 (aW true E s.heap.size)) σ 77 [(0, .ref (ea E 0))] [] := by
  intro σ hf H locs ls hP hS hl
  obtain ⟨hx, hb, hr, hml, hown, hts, hlocks, hK, hX, hj⟩ := id C
  unfold fX10_staysTill_77 at hf
  refine lv_aload_n hx hb dX10_staysTill_77 rfl (lv_at hl 0 rfl) ?_
  refine r_get (k := 3) (v := .ref (ea E 17)) C hP oC_0 rfl iX10 (by decide) wm_t297 rfl rfl dX10_staysTill_78 ?_
  refine r_get (k := 6) (v := .int (σ 17 6)) C hP (oV fV_17) rfl iX5 (by decide) wm_t105 rfl rfl dX10_staysTill_81 ?_
  refine lv_iconst (v := (-1)) hx hb dX10_staysTill_84 (by decide) ?_
  refine lv_icmp_ne (tgt := 92) hx hb dX10_staysTill_85 (by decide) (fun c1 => ?_) (fun c1 => ?_)
  · replace hf := it_f c1 hf
    refine lv_iconst (v := 0) hx hb dX10_staysTill_92 (by decide) ?_
    cases hf
    exact r_zret C rfl hP hS dX10_staysTill_93
  · replace hf := it_t c1 hf
    refine lv_iconst (v := 1) hx hb dX10_staysTill_88 (by decide) ?_
    refine lv_goto (tgt := 93) hx hb dX10_staysTill_89 (by decide) ?_
    cases hf
    exact r_zret C rfl hP hS dX10_staysTill_93
def fX10_staysTill_16B (rec16 : St → Int32 → Int32 → Option (Int32 × St)) (σ : St) (x1 : Int32) (x2 : Int32) : Option (Int32 × St) :=
(if x1 ≤ x2 then
fX10_staysTill_77 σ
else
(if (σ 17 6) = (-1) then
(cq (fX7_rainAt σ x2) fun r3 =>
(cv (fX2_setTime σ r3 (x2 - x2 / 24 * 24)) fun σ6 =>
(cq (fX7_swellAt σ6 x2) fun r7 =>
(cv (fX5_passHour 17 σ6 r7 x2) fun σ10 =>
rec16 σ10 x1 (x2 + 1)))))
else
fX10_staysTill_77 σ))
set_option maxHeartbeats 4000000 in
theorem b_fX10_staysTill_16B {E : Ev} {l : Launch} {p : Program} {e : Env} {s : State} {m : MethodId} {args : Array Value} {below : List Frame} {meth : Method} {c : Code} (C : CX true E RX10 cX10_staysTill 3 (some .boolean) p s m args meth c) {rr : Int32} {sr : St} (rec16 : St → Int32 → Int32 → Option (Int32 × St)) (hr16 : ∀ (σ : St) (x1 : Int32) (x2 : Int32), rec16 σ x1 x2 = some (rr, sr) → GW true l (rmD 7) E 3 p e s m args below meth c (MQ below (QI true E rr sr s.heap.size) args s 0 0 (aW true E s.heap.size)) σ 16 [(0, .ref (ea E 0)), (1, .int x1), (2, .int x2)] []) : ∀ (σ : St) (x1 : Int32) (x2 : Int32), fX10_staysTill_16B rec16 σ x1 x2 = some (rr, sr) → GW true l (rmD 7) E 3 p e s m args below meth c (MQ below (QI true E rr sr s.heap.size) args s 0 0 (aW true E s.heap.size)) σ 16 [(0, .ref (ea E 0)), (1, .int x1), (2, .int x2)] [] := by
  intro σ x1 x2 hf H locs ls hP hS hl
  obtain ⟨hx, hb, hr, hml, hown, hts, hlocks, hK, hX, hj⟩ := id C
  unfold fX10_staysTill_16B at hf
  refine lv_iload_n hx hb dX10_staysTill_16 rfl (lv_at hl 2 rfl) ?_
  refine lv_iload_n hx hb dX10_staysTill_17 rfl (lv_at hl 1 rfl) ?_
  refine lv_icmp_ge (tgt := 77) hx hb dX10_staysTill_18 (by decide) (fun c1 => ?_) (fun c1 => ?_)
  · replace hf := it_t c1 hf
    exact b_fX10_staysTill_77 C σ hf H locs ls hP hS (lv_sub hl [0] rfl)
  · replace hf := it_f c1 hf
    refine lv_aload_n hx hb dX10_staysTill_21 rfl (lv_at hl 0 rfl) ?_
    refine r_get (k := 3) (v := .ref (ea E 17)) C hP oC_0 rfl iX10 (by decide) wm_t297 rfl rfl dX10_staysTill_22 ?_
    refine r_get (k := 6) (v := .int (σ 17 6)) C hP (oV fV_17) rfl iX5 (by decide) wm_t105 rfl rfl dX10_staysTill_25 ?_
    refine lv_iconst (v := (-1)) hx hb dX10_staysTill_28 (by decide) ?_
    refine lv_icmp_ne (tgt := 77) hx hb dX10_staysTill_29 (by decide) (fun c2 => ?_) (fun c2 => ?_)
    · replace hf := it_f c2 hf
      exact b_fX10_staysTill_77 C σ hf H locs ls hP hS (lv_sub hl [0] rfl)
    · replace hf := it_t c2 hf
      refine lv_aload_n hx hb dX10_staysTill_32 rfl (lv_at hl 0 rfl) ?_
      refine r_get (k := 5) (v := .ref (ea E 28)) C hP oC_0 rfl iX10 (by decide) wm_t299 rfl rfl dX10_staysTill_33 ?_
      refine lv_aload_n hx hb dX10_staysTill_36 rfl (lv_at hl 0 rfl) ?_
      refine r_get (k := 0) (v := .ref (ea E 2)) C hP oC_0 rfl iX10 (by decide) wm_t294 rfl rfl dX10_staysTill_37 ?_
      refine lv_iload_n hx hb dX10_staysTill_40 rfl (lv_at hl 2 rfl) ?_
      obtain ⟨r3, hc4, hf⟩ := cq_e hf
      refine r_cVi (n := 1) (As := [.int x2]) (rest := [.ref (ea E 28)]) C (c_fX7_rainAt hj σ H.size x2 hc4) oC_2 rfl gv_RX10_168 (by decide +kernel) (rmD_le (by decide) (by decide)) rfl rfl (Nat.le_of_ble_eq_true rfl) dX10_staysTill_41 hP hS hl.1 (fun H locs hP hS => ?_)
      refine lv_iload_n hx hb dX10_staysTill_44 rfl (lv_at hl 2 rfl) ?_
      refine lv_bipush (v := 24) hx hb dX10_staysTill_45 (by decide) ?_
      refine lv_irem hx hb dX10_staysTill_47 (by decide) ?_
      obtain ⟨σ6, hc5, hf⟩ := cv_e hf
      refine r_cVv (n := 2) (As := [.int r3, .int (x2 - x2 / 24 * 24)]) (rest := []) C (c_fX2_setTime hj σ H.size r3 (x2 - x2 / 24 * 24) hc5) oC_28 rfl gv_RX10_171 (by decide +kernel) (rmD_le (by decide) (by decide)) rfl rfl (Nat.le_of_ble_eq_true rfl) dX10_staysTill_48 hP hS hl.1 (fun H locs hP hS => ?_)
      refine lv_aload_n hx hb dX10_staysTill_51 rfl (lv_at hl 0 rfl) ?_
      refine r_get (k := 3) (v := .ref (ea E 17)) C hP oC_0 rfl iX10 (by decide) wm_t297 rfl rfl dX10_staysTill_52 ?_
      refine lv_aload_n hx hb dX10_staysTill_55 rfl (lv_at hl 0 rfl) ?_
      refine r_get (k := 5) (v := .ref (ea E 28)) C hP oC_0 rfl iX10 (by decide) wm_t299 rfl rfl dX10_staysTill_56 ?_
      refine lv_aload_n hx hb dX10_staysTill_59 rfl (lv_at hl 0 rfl) ?_
      refine r_get (k := 0) (v := .ref (ea E 2)) C hP oC_0 rfl iX10 (by decide) wm_t294 rfl rfl dX10_staysTill_60 ?_
      refine lv_iload_n hx hb dX10_staysTill_63 rfl (lv_at hl 2 rfl) ?_
      obtain ⟨r7, hc8, hf⟩ := cq_e hf
      refine r_cVi (n := 1) (As := [.int x2]) (rest := [.ref (ea E 28), .ref (ea E 17)]) C (c_fX7_swellAt hj σ6 H.size x2 hc8) oC_2 rfl gv_RX10_183 (by decide +kernel) (rmD_le (by decide) (by decide)) rfl rfl (Nat.le_of_ble_eq_true rfl) dX10_staysTill_64 hP hS hl.1 (fun H locs hP hS => ?_)
      refine lv_iload_n hx hb dX10_staysTill_67 rfl (lv_at hl 2 rfl) ?_
      obtain ⟨σ10, hc9, hf⟩ := cv_e hf
      refine r_cVv (n := 3) (As := [.ref (ea E 28), .int r7, .int x2]) (rest := []) C (c_fX5_passHour fV_17 hj σ6 H.size r7 x2 hc9) (oV fV_17) rfl gv_RX10_186 (by decide +kernel) (rmD_le (by decide) (by decide)) rfl rfl (Nat.le_of_ble_eq_true rfl) dX10_staysTill_68 hP hS hl.1 (fun H locs hP hS => ?_)
      refine lv_iinc (v := (x2 + 1)) (lv' := [(2, .int (x2 + 1)), (0, .ref (ea E 0)), (1, .int x1)]) hx hb dX10_staysTill_71 hl (k := 2) rfl rfl (by decide) rfl (fun ls hl => ?_)
      refine lv_goto (tgt := 16) hx hb dX10_staysTill_74 (by decide) ?_
      exact hr16 σ10 x1 (x2 + 1) hf H locs ls hP hS (lv_sub hl [1, 2, 0] rfl)
def fX10_staysTill_16 : Nat → St → Int32 → Int32 → Option (Int32 × St)
  | 0 => fun _ _ _ => none
  | n + 1 => fun σ x1 x2 => fX10_staysTill_16B (fX10_staysTill_16 n) σ x1 x2
theorem b_fX10_staysTill_16 {E : Ev} {l : Launch} {p : Program} {e : Env} {s : State} {m : MethodId} {args : Array Value} {below : List Frame} {meth : Method} {c : Code} (C : CX true E RX10 cX10_staysTill 3 (some .boolean) p s m args meth c) {rr : Int32} {sr : St} : ∀ (n : Nat) (σ : St) (x1 : Int32) (x2 : Int32), fX10_staysTill_16 n σ x1 x2 = some (rr, sr) → GW true l (rmD 7) E 3 p e s m args below meth c (MQ below (QI true E rr sr s.heap.size) args s 0 0 (aW true E s.heap.size)) σ 16 [(0, .ref (ea E 0)), (1, .int x1), (2, .int x2)] [] := by
  intro n
  induction n with
  | zero => intro σ x1 x2 hf; have hf : (none : Option _) = some _ := hf; cases hf
  | succ n ih => intro σ x1 x2 hf; exact b_fX10_staysTill_16B C (fX10_staysTill_16 n) ih σ x1 x2 hf
def fX10_staysTill (σ : St) (a0 : Int32) : Option (Int32 × St) :=
(cv (fX5_copyFrom σ) fun σ2 =>
fX10_staysTill_16 FU σ2 a0 (σ2 0 12))
set_option maxHeartbeats 4000000 in
theorem c_fX10_staysTill {E : Ev} {l : Launch} (hj : jW true E) (σ : St) (sz : Nat) (a0 : Int32) {rr : Int32} {sr : St} (hf : fX10_staysTill σ a0 = some (rr, sr)) : Met l yX10_staysTill (Cond.code yX10_staysTill cX10_staysTill 3 (some .boolean) :: gT) (rmD 7) (va_Pc [.ref (ea E 0), .int a0] (preW true E σ sz)) (QI true E rr sr sz) 0 0 (aW true E sz) := by
  refine r_entry (QI true E rr sr) hj (by decide) [.ref (ea E 0), .int a0] (Nat.le_of_ble_eq_true rfl) (fun p e s m args below meth c C => ?_)
  intro H locs ls hP hS hl
  have hl : lv_has ls 3 [(0, .ref (ea E 0)), (1, .int a0)] := hl
  obtain ⟨hx, hb, hr, hml, hown, hts, hlocks, hK, hX, hj⟩ := id C
  unfold fX10_staysTill at hf
  refine lv_aload_n hx hb dX10_staysTill_0 rfl (lv_at hl 0 rfl) ?_
  refine r_get (k := 3) (v := .ref (ea E 17)) C hP oC_0 rfl iX10 (by decide) wm_t297 rfl rfl dX10_staysTill_1 ?_
  refine lv_aload_n hx hb dX10_staysTill_4 rfl (lv_at hl 0 rfl) ?_
  refine r_get (k := 2) (v := .ref (ea E 10)) C hP oC_0 rfl iX10 (by decide) wm_t296 rfl rfl dX10_staysTill_5 ?_
  obtain ⟨σ2, hc1, hf⟩ := cv_e hf
  refine r_cVv (n := 1) (As := [.ref (ea E 10)]) (rest := []) C (c_fX5_copyFrom hj σ H.size hc1) (oV fV_17) rfl gv_RX10_320 (by decide +kernel) (rmD_le (by decide) (by decide)) rfl rfl (Nat.le_of_ble_eq_true rfl) dX10_staysTill_8 hP hS hl.1 (fun H locs hP hS => ?_)
  refine lv_aload_n hx hb dX10_staysTill_11 rfl (lv_at hl 0 rfl) ?_
  refine r_get (k := 12) (v := .int (σ2 0 12)) C hP oC_0 rfl iX10 (by decide) wm_t306 rfl rfl dX10_staysTill_12 ?_
  refine lv_istore_n (lv' := [(2, .int (σ2 0 12)), (0, .ref (ea E 0)), (1, .int a0)]) hx hb dX10_staysTill_15 rfl hl (by decide) rfl (fun ls hl => ?_)
  exact b_fX10_staysTill_16 C FU σ2 a0 (σ2 0 12) hf H locs ls hP hS (lv_sub hl [1, 2, 0] rfl)
def fX10_reach_13 (σ : St) (x1 : Int32) (y0 : Int32) : Option (Int32 × St) :=
(if (fX10_within y0 (σ 0 11)) = 0 then
some ((-1), σ)
else
(if (σ 10 3) = 0 then
some ((-1), σ)
else
(if (σ 10 6) = (-1) then
(rdK 6 (σ 1) y0 fun v4 =>
(if ((σ 0 12) + v4) ≤ 719 then
(cb (fX10_staysTill σ ((σ 0 12) + v4)) fun r7 σ9 =>
(if x1 = (-1) then
(if r7 = 0 then
some ((-1), σ9)
else
some (y0, σ9))
else
(if r7 = 0 then
some (0, σ9)
else
some (1, σ9))))
else
some ((-1), σ)))
else
some ((-1), σ))))
set_option maxHeartbeats 4000000 in
theorem b_fX10_reach_13 {E : Ev} {l : Launch} {p : Program} {e : Env} {s : State} {m : MethodId} {args : Array Value} {below : List Frame} {meth : Method} {c : Code} (C : CX true E RX10 cX10_reach 5 (some .int) p s m args meth c) {rr : Int32} {sr : St} : ∀ (σ : St) (x1 : Int32) (y0 : Int32), fX10_reach_13 σ x1 y0 = some (rr, sr) → GW true l (rmD 8) E 5 p e s m args below meth c (MQ below (QI true E rr sr s.heap.size) args s 0 0 (aW true E s.heap.size)) σ 13 [(0, .ref (ea E 0)), (1, .int x1)] [.int y0] := by
  intro σ x1 y0 hf H locs ls hP hS hl
  obtain ⟨hx, hb, hr, hml, hown, hts, hlocks, hK, hX, hj⟩ := id C
  unfold fX10_reach_13 at hf
  refine lv_istore_n (lv' := [(2, .int y0), (0, .ref (ea E 0)), (1, .int x1)]) hx hb dX10_reach_13 rfl hl (by decide) rfl (fun ls hl => ?_)
  refine lv_iload_n hx hb dX10_reach_14 rfl (lv_at hl 0 rfl) ?_
  refine lv_aload_n hx hb dX10_reach_15 rfl (lv_at hl 1 rfl) ?_
  refine r_get (k := 11) (v := .int (σ 0 11)) C hP oC_0 rfl iX10 (by decide) wm_t305 rfl rfl dX10_reach_16 ?_
  refine r_cSi (n := 2) (As := [.int y0, .int (σ 0 11)]) (rest := []) C (c_fX10_within hj σ H.size y0 (σ 0 11)) gs_RX10_85 (by decide +kernel) (rmD_le (by decide) (by decide)) rfl rfl (Nat.le_of_ble_eq_true rfl) dX10_reach_19 hP hS hl.1 (fun H locs hP hS => ?_)
  refine lv_if_eq (tgt := 46) hx hb dX10_reach_22 (by decide) (fun c1 => ?_) (fun c1 => ?_)
  · replace hf := it_t c1 hf
    refine lv_iconst (v := (-1)) hx hb dX10_reach_46 (by decide) ?_
    cases hf
    exact r_iret C hP hS dX10_reach_47
  · replace hf := it_f c1 hf
    refine lv_aload_n hx hb dX10_reach_25 rfl (lv_at hl 1 rfl) ?_
    refine r_get (k := 2) (v := .ref (ea E 10)) C hP oC_0 rfl iX10 (by decide) wm_t296 rfl rfl dX10_reach_26 ?_
    refine r_get (k := 3) (v := .int (σ 10 3)) C hP (oV fV_10) rfl iX5 (by decide) wm_t99 rfl rfl dX10_reach_29 ?_
    refine lv_if_eq (tgt := 46) hx hb dX10_reach_32 (by decide) (fun c2 => ?_) (fun c2 => ?_)
    · replace hf := it_t c2 hf
      refine lv_iconst (v := (-1)) hx hb dX10_reach_46 (by decide) ?_
      cases hf
      exact r_iret C hP hS dX10_reach_47
    · replace hf := it_f c2 hf
      refine lv_aload_n hx hb dX10_reach_35 rfl (lv_at hl 1 rfl) ?_
      refine r_get (k := 2) (v := .ref (ea E 10)) C hP oC_0 rfl iX10 (by decide) wm_t296 rfl rfl dX10_reach_36 ?_
      refine r_get (k := 6) (v := .int (σ 10 6)) C hP (oV fV_10) rfl iX5 (by decide) wm_t105 rfl rfl dX10_reach_39 ?_
      refine lv_iconst (v := (-1)) hx hb dX10_reach_42 (by decide) ?_
      refine lv_icmp_eq (tgt := 48) hx hb dX10_reach_43 (by decide) (fun c3 => ?_) (fun c3 => ?_)
      · replace hf := it_t c3 hf
        refine lv_aload_n hx hb dX10_reach_48 rfl (lv_at hl 1 rfl) ?_
        refine r_get (k := 12) (v := .int (σ 0 12)) C hP oC_0 rfl iX10 (by decide) wm_t306 rfl rfl dX10_reach_49 ?_
        refine lv_aload_n hx hb dX10_reach_52 rfl (lv_at hl 1 rfl) ?_
        refine r_get (k := 10) (v := .ref (ea E 1)) C hP oC_0 rfl iX10 (by decide) wm_t304 rfl rfl dX10_reach_53 ?_
        refine lv_iload_n hx hb dX10_reach_56 rfl (lv_at hl 0 rfl) ?_
        have h5 := (rdK_e hf).1
        refine r_ald C hP aC_1 h5 dX10_reach_57 ?_
        refine lv_topi (fun v4 ev4 => ?_)
        replace hf := rdK_n ev4 hf
        refine lv_iadd hx hb dX10_reach_58 ?_
        refine lv_istore_n (lv' := [(3, .int ((σ 0 12) + v4)), (2, .int y0), (0, .ref (ea E 0)), (1, .int x1)]) hx hb dX10_reach_59 rfl hl (by decide) rfl (fun ls hl => ?_)
        refine lv_iload_n hx hb dX10_reach_60 rfl (lv_at hl 0 rfl) ?_
        refine lv_sipush (v := 719) hx hb dX10_reach_61 (by decide) ?_
        refine lv_icmp_le (tgt := 69) hx hb dX10_reach_64 (by decide) (fun c6 => ?_) (fun c6 => ?_)
        · replace hf := it_t c6 hf
          refine lv_aload_n hx hb dX10_reach_69 rfl (lv_at hl 2 rfl) ?_
          refine lv_iload_n hx hb dX10_reach_70 rfl (lv_at hl 0 rfl) ?_
          obtain ⟨r7, σ9, hc8, hf⟩ := cb_e hf
          refine r_cVi (n := 1) (As := [.int ((σ 0 12) + v4)]) (rest := []) C (c_fX10_staysTill hj σ H.size ((σ 0 12) + v4) hc8) oC_0 rfl gv_RX10_301 (by decide +kernel) (rmD_le (by decide) (by decide)) rfl rfl (Nat.le_of_ble_eq_true rfl) dX10_reach_71 hP hS hl.1 (fun H locs hP hS => ?_)
          refine lv_istore (lv' := [(4, .int r7), (3, .int ((σ 0 12) + v4)), (2, .int y0), (0, .ref (ea E 0)), (1, .int x1)]) hx hb dX10_reach_74 hl (by decide) rfl (fun ls hl => ?_)
          refine lv_iload_n hx hb dX10_reach_76 rfl (lv_at hl 4 rfl) ?_
          refine lv_iconst (v := (-1)) hx hb dX10_reach_77 (by decide) ?_
          refine lv_icmp_ne (tgt := 92) hx hb dX10_reach_78 (by decide) (fun c10 => ?_) (fun c10 => ?_)
          · replace hf := it_f c10 hf
            refine lv_iload hx hb dX10_reach_92 (lv_at hl 0 rfl) ?_
            refine lv_if_eq (tgt := 101) hx hb dX10_reach_94 (by decide) (fun c11 => ?_) (fun c11 => ?_)
            · replace hf := it_t c11 hf
              refine lv_iconst (v := 0) hx hb dX10_reach_101 (by decide) ?_
              cases hf
              exact r_iret C hP hS dX10_reach_102
            · replace hf := it_f c11 hf
              refine lv_iconst (v := 1) hx hb dX10_reach_97 (by decide) ?_
              refine lv_goto (tgt := 102) hx hb dX10_reach_98 (by decide) ?_
              cases hf
              exact r_iret C hP hS dX10_reach_102
          · replace hf := it_t c10 hf
            refine lv_iload hx hb dX10_reach_81 (lv_at hl 0 rfl) ?_
            refine lv_if_eq (tgt := 90) hx hb dX10_reach_83 (by decide) (fun c12 => ?_) (fun c12 => ?_)
            · replace hf := it_t c12 hf
              refine lv_iconst (v := (-1)) hx hb dX10_reach_90 (by decide) ?_
              cases hf
              exact r_iret C hP hS dX10_reach_91
            · replace hf := it_f c12 hf
              refine lv_iload_n hx hb dX10_reach_86 rfl (lv_at hl 2 rfl) ?_
              refine lv_goto (tgt := 91) hx hb dX10_reach_87 (by decide) ?_
              cases hf
              exact r_iret C hP hS dX10_reach_91
        · replace hf := it_f c6 hf
          refine lv_iconst (v := (-1)) hx hb dX10_reach_67 (by decide) ?_
          cases hf
          exact r_iret C hP hS dX10_reach_68
      · replace hf := it_f c3 hf
        refine lv_iconst (v := (-1)) hx hb dX10_reach_46 (by decide) ?_
        cases hf
        exact r_iret C hP hS dX10_reach_47
def fX10_reach (σ : St) (a0 : Int32) : Option (Int32 × St) :=
(if a0 = (-1) then
(cq (fX10_nearestPort σ) fun r2 =>
fX10_reach_13 σ a0 r2)
else
fX10_reach_13 σ a0 a0)
set_option maxHeartbeats 4000000 in
theorem c_fX10_reach {E : Ev} {l : Launch} (hj : jW true E) (σ : St) (sz : Nat) (a0 : Int32) {rr : Int32} {sr : St} (hf : fX10_reach σ a0 = some (rr, sr)) : Met l yX10_reach (Cond.code yX10_reach cX10_reach 5 (some .int) :: gT) (rmD 8) (va_Pc [.ref (ea E 0), .int a0] (preW true E σ sz)) (QI true E rr sr sz) 0 0 (aW true E sz) := by
  refine r_entry (QI true E rr sr) hj (by decide) [.ref (ea E 0), .int a0] (Nat.le_of_ble_eq_true rfl) (fun p e s m args below meth c C => ?_)
  intro H locs ls hP hS hl
  have hl : lv_has ls 5 [(0, .ref (ea E 0)), (1, .int a0)] := hl
  obtain ⟨hx, hb, hr, hml, hown, hts, hlocks, hK, hX, hj⟩ := id C
  unfold fX10_reach at hf
  refine lv_iload_n hx hb dX10_reach_0 rfl (lv_at hl 1 rfl) ?_
  refine lv_iconst (v := (-1)) hx hb dX10_reach_1 (by decide) ?_
  refine lv_icmp_ne (tgt := 12) hx hb dX10_reach_2 (by decide) (fun c1 => ?_) (fun c1 => ?_)
  · replace hf := it_f c1 hf
    refine lv_iload_n hx hb dX10_reach_12 rfl (lv_at hl 1 rfl) ?_
    exact b_fX10_reach_13 C σ a0 a0 hf H locs ls hP hS (lv_sub hl [0, 1] rfl)
  · replace hf := it_t c1 hf
    refine lv_aload_n hx hb dX10_reach_5 rfl (lv_at hl 0 rfl) ?_
    obtain ⟨r2, hc3, hf⟩ := cq_e hf
    refine r_cVi (n := 0) (As := []) (rest := []) C (c_fX10_nearestPort hj σ H.size hc3) oC_0 rfl gv_RX10_298 (by decide +kernel) (rmD_le (by decide) (by decide)) rfl rfl (Nat.le_of_ble_eq_true rfl) dX10_reach_6 hP hS hl.1 (fun H locs hP hS => ?_)
    refine lv_goto (tgt := 13) hx hb dX10_reach_9 (by decide) ?_
    exact b_fX10_reach_13 C σ a0 r2 hf H locs ls hP hS (lv_sub hl [0, 1] rfl)
def fX4_claims_68 (rc : St → Int32 → Option (Int32 × St)) (rec7 : St → Int32 → Int32 → Int32 → Int32 → Option (Int32 × St)) (σ : St) (x1 : Int32) (x3 : Int32) (x4 : Int32) : Option (Int32 × St) :=
(cb (fX4_take σ 257) fun r1 σ3 =>
(if r1 = 0 then
some (1, σ3)
else
rec7 σ3 x1 r1 x3 (x4 + 1)))
set_option maxHeartbeats 4000000 in
theorem b_fX4_claims_68 {E : Ev} {l : Launch} {p : Program} {e : Env} {s : State} {m : MethodId} {args : Array Value} {below : List Frame} {meth : Method} {c : Code} (rc : St → Int32 → Option (Int32 × St)) {k : Nat} (hk : 4 ≤ k) (hrc : ∀ (σ : St) (sz : Nat) (a0 : Int32) (rr : Int32) (sr : St), rc σ a0 = some (rr, sr) → Met l yX4_claim (Cond.code yX4_claim cX4_claim 3 (some .boolean) :: gT) (rmD k) (va_Pc [.ref (ea E 24), .int a0] (preW true E σ sz)) (QI true E rr sr sz) 0 0 (aW true E sz)) (C : CX true E RX4 cX4_claims 5 (some .boolean) p s m args meth c) {rr : Int32} {sr : St} (rec7 : St → Int32 → Int32 → Int32 → Int32 → Option (Int32 × St)) (hr7 : ∀ (σ : St) (x1 : Int32) (x2 : Int32) (x3 : Int32) (x4 : Int32), rec7 σ x1 x2 x3 x4 = some (rr, sr) → GW true l (rmD (k + 1)) E 5 p e s m args below meth c (MQ below (QI true E rr sr s.heap.size) args s 0 0 (aW true E s.heap.size)) σ 7 [(0, .ref (ea E 24)), (1, .int x1), (2, .int x2), (3, .int x3), (4, .int x4)] []) : ∀ (σ : St) (x1 : Int32) (x3 : Int32) (x4 : Int32), fX4_claims_68 rc rec7 σ x1 x3 x4 = some (rr, sr) → GW true l (rmD (k + 1)) E 5 p e s m args below meth c (MQ below (QI true E rr sr s.heap.size) args s 0 0 (aW true E s.heap.size)) σ 68 [(0, .ref (ea E 24)), (1, .int x1), (3, .int x3), (4, .int x4)] [] := by
  intro σ x1 x3 x4 hf H locs ls hP hS hl
  obtain ⟨hx, hb, hr, hml, hown, hts, hlocks, hK, hX, hj⟩ := id C
  unfold fX4_claims_68 at hf
  refine lv_aload_n hx hb dX4_claims_68 rfl (lv_at hl 0 rfl) ?_
  refine lv_sipush (v := 257) hx hb dX4_claims_69 (by decide) ?_
  obtain ⟨r1, σ3, hc2, hf⟩ := cb_e hf
  refine r_cVi (n := 1) (As := [.int 257]) (rest := []) C (c_fX4_take hj σ H.size 257 hc2) oC_24 rfl gv_RX4_120 (by decide +kernel) (rmD_le (by omega) (by decide)) rfl rfl (Nat.le_of_ble_eq_true rfl) dX4_claims_72 hP hS hl.1 (fun H locs hP hS => ?_)
  refine lv_istore_n (lv' := [(2, .int r1), (0, .ref (ea E 24)), (1, .int x1), (3, .int x3), (4, .int x4)]) hx hb dX4_claims_75 rfl hl (by decide) rfl (fun ls hl => ?_)
  refine lv_iload_n hx hb dX4_claims_76 rfl (lv_at hl 0 rfl) ?_
  refine lv_if_ne (tgt := 82) hx hb dX4_claims_77 (by decide) (fun c4 => ?_) (fun c4 => ?_)
  · replace hf := it_f c4 hf
    refine lv_iinc (v := (x4 + 1)) (lv' := [(4, .int (x4 + 1)), (2, .int r1), (0, .ref (ea E 24)), (1, .int x1), (3, .int x3)]) hx hb dX4_claims_82 hl (k := 4) rfl rfl (by decide) rfl (fun ls hl => ?_)
    refine lv_goto (tgt := 7) hx hb dX4_claims_85 (by decide) ?_
    exact hr7 σ3 x1 r1 x3 (x4 + 1) hf H locs ls hP hS (lv_sub hl [2, 3, 1, 4, 0] rfl)
  · replace hf := it_t c4 hf
    refine lv_iconst (v := 1) hx hb dX4_claims_80 (by decide) ?_
    cases hf
    exact r_zret C rfl hP hS dX4_claims_81
def fX4_claims_39 (rc : St → Int32 → Option (Int32 × St)) (rec7 : St → Int32 → Int32 → Int32 → Int32 → Option (Int32 × St)) (σ : St) (x1 : Int32) (x2 : Int32) (x4 : Int32) : Option (Int32 × St) :=
(cb (fX4_take σ 258) fun r1 σ3 =>
(if r1 = 0 then
(if x2 = 0 then
fX4_claims_68 rc rec7 σ3 x1 r1 x4
else
(gw (σ3 24 7) fun w6 =>
(cv (fX9_add w6 σ3 11 0) fun σ8 =>
fX4_claims_68 rc rec7 σ8 x1 r1 x4)))
else
rec7 σ3 x1 x2 r1 (x4 + 1)))
set_option maxHeartbeats 4000000 in
theorem b_fX4_claims_39 {E : Ev} {l : Launch} {p : Program} {e : Env} {s : State} {m : MethodId} {args : Array Value} {below : List Frame} {meth : Method} {c : Code} (rc : St → Int32 → Option (Int32 × St)) {k : Nat} (hk : 4 ≤ k) (hrc : ∀ (σ : St) (sz : Nat) (a0 : Int32) (rr : Int32) (sr : St), rc σ a0 = some (rr, sr) → Met l yX4_claim (Cond.code yX4_claim cX4_claim 3 (some .boolean) :: gT) (rmD k) (va_Pc [.ref (ea E 24), .int a0] (preW true E σ sz)) (QI true E rr sr sz) 0 0 (aW true E sz)) (C : CX true E RX4 cX4_claims 5 (some .boolean) p s m args meth c) {rr : Int32} {sr : St} (rec7 : St → Int32 → Int32 → Int32 → Int32 → Option (Int32 × St)) (hr7 : ∀ (σ : St) (x1 : Int32) (x2 : Int32) (x3 : Int32) (x4 : Int32), rec7 σ x1 x2 x3 x4 = some (rr, sr) → GW true l (rmD (k + 1)) E 5 p e s m args below meth c (MQ below (QI true E rr sr s.heap.size) args s 0 0 (aW true E s.heap.size)) σ 7 [(0, .ref (ea E 24)), (1, .int x1), (2, .int x2), (3, .int x3), (4, .int x4)] []) : ∀ (σ : St) (x1 : Int32) (x2 : Int32) (x4 : Int32), fX4_claims_39 rc rec7 σ x1 x2 x4 = some (rr, sr) → GW true l (rmD (k + 1)) E 5 p e s m args below meth c (MQ below (QI true E rr sr s.heap.size) args s 0 0 (aW true E s.heap.size)) σ 39 [(0, .ref (ea E 24)), (1, .int x1), (2, .int x2), (4, .int x4)] [] := by
  intro σ x1 x2 x4 hf H locs ls hP hS hl
  obtain ⟨hx, hb, hr, hml, hown, hts, hlocks, hK, hX, hj⟩ := id C
  unfold fX4_claims_39 at hf
  refine lv_aload_n hx hb dX4_claims_39 rfl (lv_at hl 0 rfl) ?_
  refine lv_sipush (v := 258) hx hb dX4_claims_40 (by decide) ?_
  obtain ⟨r1, σ3, hc2, hf⟩ := cb_e hf
  refine r_cVi (n := 1) (As := [.int 258]) (rest := []) C (c_fX4_take hj σ H.size 258 hc2) oC_24 rfl gv_RX4_120 (by decide +kernel) (rmD_le (by omega) (by decide)) rfl rfl (Nat.le_of_ble_eq_true rfl) dX4_claims_43 hP hS hl.1 (fun H locs hP hS => ?_)
  refine lv_istore_n (lv' := [(3, .int r1), (0, .ref (ea E 24)), (1, .int x1), (2, .int x2), (4, .int x4)]) hx hb dX4_claims_46 rfl hl (by decide) rfl (fun ls hl => ?_)
  refine lv_iload_n hx hb dX4_claims_47 rfl (lv_at hl 0 rfl) ?_
  refine lv_if_eq (tgt := 54) hx hb dX4_claims_48 (by decide) (fun c4 => ?_) (fun c4 => ?_)
  · replace hf := it_t c4 hf
    refine lv_iload_n hx hb dX4_claims_54 rfl (lv_at hl 3 rfl) ?_
    refine lv_if_eq (tgt := 68) hx hb dX4_claims_55 (by decide) (fun c5 => ?_) (fun c5 => ?_)
    · replace hf := it_t c5 hf
      exact b_fX4_claims_68 rc hk hrc C rec7 hr7 σ3 x1 r1 x4 hf H locs ls hP hS (lv_sub hl [1, 2, 0, 4] rfl)
    · replace hf := it_f c5 hf
      refine lv_aload_n hx hb dX4_claims_58 rfl (lv_at hl 1 rfl) ?_
      refine r_get (k := 7) (v := .ref (ea E (σ3 24 7).toNatClampNeg)) C hP oC_24 rfl iX4 (by decide) wm_t169 rfl rfl dX4_claims_59 ?_
      obtain ⟨w6, ew6, hw6, hf⟩ := gw_e hf
      rw [ew6]
      refine lv_bipush (v := 11) hx hb dX4_claims_62 (by decide) ?_
      refine lv_iconst (v := 0) hx hb dX4_claims_64 (by decide) ?_
      obtain ⟨σ8, hc7, hf⟩ := cv_e hf
      refine r_cVv (n := 2) (As := [.int 11, .int 0]) (rest := []) C (c_fX9_add hw6 hj σ3 H.size 11 0 hc7) (oW hw6) rfl gv_RX4_142 (by decide +kernel) (rmD_le (by omega) (by decide)) rfl rfl (Nat.le_of_ble_eq_true rfl) dX4_claims_65 hP hS hl.1 (fun H locs hP hS => ?_)
      exact b_fX4_claims_68 rc hk hrc C rec7 hr7 σ8 x1 r1 x4 hf H locs ls hP hS (lv_sub hl [1, 2, 0, 4] rfl)
  · replace hf := it_f c4 hf
    refine lv_goto (tgt := 82) hx hb dX4_claims_51 (by decide) ?_
    refine lv_iinc (v := (x4 + 1)) (lv' := [(4, .int (x4 + 1)), (3, .int r1), (0, .ref (ea E 24)), (1, .int x1), (2, .int x2)]) hx hb dX4_claims_82 hl (k := 4) rfl rfl (by decide) rfl (fun ls hl => ?_)
    refine lv_goto (tgt := 7) hx hb dX4_claims_85 (by decide) ?_
    exact hr7 σ3 x1 x2 r1 (x4 + 1) hf H locs ls hP hS (lv_sub hl [2, 3, 4, 1, 0] rfl)
def fX4_claims_7B (rc : St → Int32 → Option (Int32 × St)) (rec7 : St → Int32 → Int32 → Int32 → Int32 → Option (Int32 × St)) (σ : St) (x1 : Int32) (x2 : Int32) (x3 : Int32) (x4 : Int32) : Option (Int32 × St) :=
(if 600 < x4 then
some (1, σ)
else
(cb (rc σ x1) fun r2 σ4 =>
(if r2 = 0 then
some (0, σ4)
else
(if x3 = 0 then
fX4_claims_39 rc rec7 σ4 x1 x2 x4
else
(gw (σ4 24 7) fun w7 =>
(cv (fX9_add w7 σ4 10 0) fun σ9 =>
fX4_claims_39 rc rec7 σ9 x1 x2 x4))))))
set_option maxHeartbeats 4000000 in
theorem b_fX4_claims_7B {E : Ev} {l : Launch} {p : Program} {e : Env} {s : State} {m : MethodId} {args : Array Value} {below : List Frame} {meth : Method} {c : Code} (rc : St → Int32 → Option (Int32 × St)) {k : Nat} (hk : 4 ≤ k) (hrc : ∀ (σ : St) (sz : Nat) (a0 : Int32) (rr : Int32) (sr : St), rc σ a0 = some (rr, sr) → Met l yX4_claim (Cond.code yX4_claim cX4_claim 3 (some .boolean) :: gT) (rmD k) (va_Pc [.ref (ea E 24), .int a0] (preW true E σ sz)) (QI true E rr sr sz) 0 0 (aW true E sz)) (C : CX true E RX4 cX4_claims 5 (some .boolean) p s m args meth c) {rr : Int32} {sr : St} (rec7 : St → Int32 → Int32 → Int32 → Int32 → Option (Int32 × St)) (hr7 : ∀ (σ : St) (x1 : Int32) (x2 : Int32) (x3 : Int32) (x4 : Int32), rec7 σ x1 x2 x3 x4 = some (rr, sr) → GW true l (rmD (k + 1)) E 5 p e s m args below meth c (MQ below (QI true E rr sr s.heap.size) args s 0 0 (aW true E s.heap.size)) σ 7 [(0, .ref (ea E 24)), (1, .int x1), (2, .int x2), (3, .int x3), (4, .int x4)] []) : ∀ (σ : St) (x1 : Int32) (x2 : Int32) (x3 : Int32) (x4 : Int32), fX4_claims_7B rc rec7 σ x1 x2 x3 x4 = some (rr, sr) → GW true l (rmD (k + 1)) E 5 p e s m args below meth c (MQ below (QI true E rr sr s.heap.size) args s 0 0 (aW true E s.heap.size)) σ 7 [(0, .ref (ea E 24)), (1, .int x1), (2, .int x2), (3, .int x3), (4, .int x4)] [] := by
  intro σ x1 x2 x3 x4 hf H locs ls hP hS hl
  obtain ⟨hx, hb, hr, hml, hown, hts, hlocks, hK, hX, hj⟩ := id C
  unfold fX4_claims_7B at hf
  refine lv_iload hx hb dX4_claims_7 (lv_at hl 4 rfl) ?_
  refine lv_sipush (v := 600) hx hb dX4_claims_9 (by decide) ?_
  refine lv_icmp_gt (tgt := 88) hx hb dX4_claims_12 (by decide) (fun c1 => ?_) (fun c1 => ?_)
  · replace hf := it_t c1 hf
    refine lv_iconst (v := 1) hx hb dX4_claims_88 (by decide) ?_
    cases hf
    exact r_zret C rfl hP hS dX4_claims_89
  · replace hf := it_f c1 hf
    refine lv_aload_n hx hb dX4_claims_15 rfl (lv_at hl 0 rfl) ?_
    refine lv_iload_n hx hb dX4_claims_16 rfl (lv_at hl 1 rfl) ?_
    obtain ⟨r2, σ4, hc3, hf⟩ := cb_e hf
    refine r_cVi (n := 1) (As := [.int x1]) (rest := []) C (hrc σ H.size x1 r2 σ4 hc3) oC_24 rfl gv_RX4_139 (by decide +kernel) (rmD_le (by omega) (by decide)) rfl rfl (Nat.le_of_ble_eq_true rfl) dX4_claims_17 hP hS hl.1 (fun H locs hP hS => ?_)
    refine lv_if_ne (tgt := 25) hx hb dX4_claims_20 (by decide) (fun c5 => ?_) (fun c5 => ?_)
    · replace hf := it_f c5 hf
      refine lv_iload_n hx hb dX4_claims_25 rfl (lv_at hl 3 rfl) ?_
      refine lv_if_eq (tgt := 39) hx hb dX4_claims_26 (by decide) (fun c6 => ?_) (fun c6 => ?_)
      · replace hf := it_t c6 hf
        exact b_fX4_claims_39 rc hk hrc C rec7 hr7 σ4 x1 x2 x4 hf H locs ls hP hS (lv_sub hl [0, 1, 2, 4] rfl)
      · replace hf := it_f c6 hf
        refine lv_aload_n hx hb dX4_claims_29 rfl (lv_at hl 0 rfl) ?_
        refine r_get (k := 7) (v := .ref (ea E (σ4 24 7).toNatClampNeg)) C hP oC_24 rfl iX4 (by decide) wm_t169 rfl rfl dX4_claims_30 ?_
        obtain ⟨w7, ew7, hw7, hf⟩ := gw_e hf
        rw [ew7]
        refine lv_bipush (v := 10) hx hb dX4_claims_33 (by decide) ?_
        refine lv_iconst (v := 0) hx hb dX4_claims_35 (by decide) ?_
        obtain ⟨σ9, hc8, hf⟩ := cv_e hf
        refine r_cVv (n := 2) (As := [.int 10, .int 0]) (rest := []) C (c_fX9_add hw7 hj σ4 H.size 10 0 hc8) (oW hw7) rfl gv_RX4_142 (by decide +kernel) (rmD_le (by omega) (by decide)) rfl rfl (Nat.le_of_ble_eq_true rfl) dX4_claims_36 hP hS hl.1 (fun H locs hP hS => ?_)
        exact b_fX4_claims_39 rc hk hrc C rec7 hr7 σ9 x1 x2 x4 hf H locs ls hP hS (lv_sub hl [0, 1, 2, 4] rfl)
    · replace hf := it_t c5 hf
      refine lv_iconst (v := 0) hx hb dX4_claims_23 (by decide) ?_
      cases hf
      exact r_zret C rfl hP hS dX4_claims_24
def fX4_claims_7 (rc : St → Int32 → Option (Int32 × St)) : Nat → St → Int32 → Int32 → Int32 → Int32 → Option (Int32 × St)
  | 0 => fun _ _ _ _ _ => none
  | n + 1 => fun σ x1 x2 x3 x4 => fX4_claims_7B rc (fX4_claims_7 rc n) σ x1 x2 x3 x4
theorem b_fX4_claims_7 {E : Ev} {l : Launch} {p : Program} {e : Env} {s : State} {m : MethodId} {args : Array Value} {below : List Frame} {meth : Method} {c : Code} (rc : St → Int32 → Option (Int32 × St)) {k : Nat} (hk : 4 ≤ k) (hrc : ∀ (σ : St) (sz : Nat) (a0 : Int32) (rr : Int32) (sr : St), rc σ a0 = some (rr, sr) → Met l yX4_claim (Cond.code yX4_claim cX4_claim 3 (some .boolean) :: gT) (rmD k) (va_Pc [.ref (ea E 24), .int a0] (preW true E σ sz)) (QI true E rr sr sz) 0 0 (aW true E sz)) (C : CX true E RX4 cX4_claims 5 (some .boolean) p s m args meth c) {rr : Int32} {sr : St} : ∀ (n : Nat) (σ : St) (x1 : Int32) (x2 : Int32) (x3 : Int32) (x4 : Int32), fX4_claims_7 rc n σ x1 x2 x3 x4 = some (rr, sr) → GW true l (rmD (k + 1)) E 5 p e s m args below meth c (MQ below (QI true E rr sr s.heap.size) args s 0 0 (aW true E s.heap.size)) σ 7 [(0, .ref (ea E 24)), (1, .int x1), (2, .int x2), (3, .int x3), (4, .int x4)] [] := by
  intro n
  induction n with
  | zero => intro σ x1 x2 x3 x4 hf; have hf : (none : Option _) = some _ := hf; cases hf
  | succ n ih => intro σ x1 x2 x3 x4 hf; exact b_fX4_claims_7B rc hk hrc C (fX4_claims_7 rc n) ih σ x1 x2 x3 x4 hf
def fX4_claims (rc : St → Int32 → Option (Int32 × St)) (σ : St) (a0 : Int32) : Option (Int32 × St) :=
fX4_claims_7 rc FU σ a0 0 0 0
set_option maxHeartbeats 4000000 in
theorem c_fX4_claims {E : Ev} {l : Launch} (rc : St → Int32 → Option (Int32 × St)) {k : Nat} (hk : 4 ≤ k) (hrc : ∀ (σ : St) (sz : Nat) (a0 : Int32) (rr : Int32) (sr : St), rc σ a0 = some (rr, sr) → Met l yX4_claim (Cond.code yX4_claim cX4_claim 3 (some .boolean) :: gT) (rmD k) (va_Pc [.ref (ea E 24), .int a0] (preW true E σ sz)) (QI true E rr sr sz) 0 0 (aW true E sz)) (hj : jW true E) (σ : St) (sz : Nat) (a0 : Int32) {rr : Int32} {sr : St} (hf : fX4_claims rc σ a0 = some (rr, sr)) : Met l yX4_claims (Cond.code yX4_claims cX4_claims 5 (some .boolean) :: gT) (rmD (k + 1)) (va_Pc [.ref (ea E 24), .int a0] (preW true E σ sz)) (QI true E rr sr sz) 0 0 (aW true E sz) := by
  refine r_entry (QI true E rr sr) hj (by decide) [.ref (ea E 24), .int a0] (Nat.le_of_ble_eq_true rfl) (fun p e s m args below meth c C => ?_)
  intro H locs ls hP hS hl
  have hl : lv_has ls 5 [(0, .ref (ea E 24)), (1, .int a0)] := hl
  obtain ⟨hx, hb, hr, hml, hown, hts, hlocks, hK, hX, hj⟩ := id C
  unfold fX4_claims at hf
  refine lv_iconst (v := 0) hx hb dX4_claims_0 (by decide) ?_
  refine lv_istore_n (lv' := [(2, .int 0), (0, .ref (ea E 24)), (1, .int a0)]) hx hb dX4_claims_1 rfl hl (by decide) rfl (fun ls hl => ?_)
  refine lv_iconst (v := 0) hx hb dX4_claims_2 (by decide) ?_
  refine lv_istore_n (lv' := [(3, .int 0), (2, .int 0), (0, .ref (ea E 24)), (1, .int a0)]) hx hb dX4_claims_3 rfl hl (by decide) rfl (fun ls hl => ?_)
  refine lv_iconst (v := 0) hx hb dX4_claims_4 (by decide) ?_
  refine lv_istore (lv' := [(4, .int 0), (3, .int 0), (2, .int 0), (0, .ref (ea E 24)), (1, .int a0)]) hx hb dX4_claims_5 hl (by decide) rfl (fun ls hl => ?_)
  exact b_fX4_claims_7 rc hk hrc C FU σ a0 0 0 0 hf H locs ls hP hS (lv_sub hl [3, 4, 2, 1, 0] rfl)
def fX4_opened (rc : St → Int32 → Option (Int32 × St)) (σ : St) (a0 : Int32) : Option (Int32 × St) :=
(cb (fX4_take σ 40) fun r1 σ3 =>
(if r1 = 0 then
(cv (fX4_advance σ3) fun σ6 =>
(cb (rc σ6 a0) fun r7 σ9 =>
(if r7 = 0 then
some (0, σ9)
else
(gw (σ9 24 7) fun w11 =>
(cv (fX9_add w11 σ9 3 0) fun σ13 =>
some (1, σ13))))))
else
(cb (fX4_claims rc σ3 a0) fun r14 σ16 =>
(if r14 = 0 then
some (0, σ16)
else
(cb (fX4_take σ16 41) fun r18 σ20 =>
(if r18 = 0 then
(cb (fX4_fail σ20 1) fun r22 σ24 =>
(if r22 = 0 then
some (0, σ24)
else
some (1, σ24)))
else
some (1, σ20)))))))
set_option maxHeartbeats 4000000 in
theorem c_fX4_opened {E : Ev} {l : Launch} (rc : St → Int32 → Option (Int32 × St)) {k : Nat} (hk : 4 ≤ k) (hrc : ∀ (σ : St) (sz : Nat) (a0 : Int32) (rr : Int32) (sr : St), rc σ a0 = some (rr, sr) → Met l yX4_claim (Cond.code yX4_claim cX4_claim 3 (some .boolean) :: gT) (rmD k) (va_Pc [.ref (ea E 24), .int a0] (preW true E σ sz)) (QI true E rr sr sz) 0 0 (aW true E sz)) (hj : jW true E) (σ : St) (sz : Nat) (a0 : Int32) {rr : Int32} {sr : St} (hf : fX4_opened rc σ a0 = some (rr, sr)) : Met l yX4_opened (Cond.code yX4_opened cX4_opened 2 (some .boolean) :: gT) (rmD (k + 2)) (va_Pc [.ref (ea E 24), .int a0] (preW true E σ sz)) (QI true E rr sr sz) 0 0 (aW true E sz) := by
  refine r_entry (QI true E rr sr) hj (by decide) [.ref (ea E 24), .int a0] (Nat.le_of_ble_eq_true rfl) (fun p e s m args below meth c C => ?_)
  intro H locs ls hP hS hl
  have hl : lv_has ls 2 [(0, .ref (ea E 24)), (1, .int a0)] := hl
  obtain ⟨hx, hb, hr, hml, hown, hts, hlocks, hK, hX, hj⟩ := id C
  unfold fX4_opened at hf
  refine lv_aload_n hx hb dX4_opened_0 rfl (lv_at hl 0 rfl) ?_
  refine lv_bipush (v := 40) hx hb dX4_opened_1 (by decide) ?_
  obtain ⟨r1, σ3, hc2, hf⟩ := cb_e hf
  refine r_cVi (n := 1) (As := [.int 40]) (rest := []) C (c_fX4_take hj σ H.size 40 hc2) oC_24 rfl gv_RX4_120 (by decide +kernel) (rmD_le (by omega) (by decide)) rfl rfl (Nat.le_of_ble_eq_true rfl) dX4_opened_3 hP hS hl.1 (fun H locs hP hS => ?_)
  refine lv_if_eq (tgt := 40) hx hb dX4_opened_6 (by decide) (fun c4 => ?_) (fun c4 => ?_)
  · replace hf := it_t c4 hf
    refine lv_aload_n hx hb dX4_opened_40 rfl (lv_at hl 0 rfl) ?_
    obtain ⟨σ6, hc5, hf⟩ := cv_e hf
    refine r_cVv (n := 0) (As := []) (rest := []) C (c_fX4_advance hj σ3 H.size hc5) oC_24 rfl gv_RX4_95 (by decide +kernel) (rmD_le (by omega) (by decide)) rfl rfl (Nat.le_of_ble_eq_true rfl) dX4_opened_41 hP hS hl.1 (fun H locs hP hS => ?_)
    refine lv_aload_n hx hb dX4_opened_44 rfl (lv_at hl 0 rfl) ?_
    refine lv_iload_n hx hb dX4_opened_45 rfl (lv_at hl 1 rfl) ?_
    obtain ⟨r7, σ9, hc8, hf⟩ := cb_e hf
    refine r_cVi (n := 1) (As := [.int a0]) (rest := []) C (hrc σ6 H.size a0 r7 σ9 hc8) oC_24 rfl gv_RX4_139 (by decide +kernel) (rmD_le (by omega) (by decide)) rfl rfl (Nat.le_of_ble_eq_true rfl) dX4_opened_46 hP hS hl.1 (fun H locs hP hS => ?_)
    refine lv_if_ne (tgt := 54) hx hb dX4_opened_49 (by decide) (fun c10 => ?_) (fun c10 => ?_)
    · replace hf := it_f c10 hf
      refine lv_aload_n hx hb dX4_opened_54 rfl (lv_at hl 0 rfl) ?_
      refine r_get (k := 7) (v := .ref (ea E (σ9 24 7).toNatClampNeg)) C hP oC_24 rfl iX4 (by decide) wm_t169 rfl rfl dX4_opened_55 ?_
      obtain ⟨w11, ew11, hw11, hf⟩ := gw_e hf
      rw [ew11]
      refine lv_iconst (v := 3) hx hb dX4_opened_58 (by decide) ?_
      refine lv_iconst (v := 0) hx hb dX4_opened_59 (by decide) ?_
      obtain ⟨σ13, hc12, hf⟩ := cv_e hf
      refine r_cVv (n := 2) (As := [.int 3, .int 0]) (rest := []) C (c_fX9_add hw11 hj σ9 H.size 3 0 hc12) (oW hw11) rfl gv_RX4_142 (by decide +kernel) (rmD_le (by omega) (by decide)) rfl rfl (Nat.le_of_ble_eq_true rfl) dX4_opened_60 hP hS hl.1 (fun H locs hP hS => ?_)
      refine lv_iconst (v := 1) hx hb dX4_opened_63 (by decide) ?_
      cases hf
      exact r_zret C rfl hP hS dX4_opened_64
    · replace hf := it_t c10 hf
      refine lv_iconst (v := 0) hx hb dX4_opened_52 (by decide) ?_
      cases hf
      exact r_zret C rfl hP hS dX4_opened_53
  · replace hf := it_f c4 hf
    refine lv_aload_n hx hb dX4_opened_9 rfl (lv_at hl 0 rfl) ?_
    refine lv_iload_n hx hb dX4_opened_10 rfl (lv_at hl 1 rfl) ?_
    obtain ⟨r14, σ16, hc15, hf⟩ := cb_e hf
    refine r_cVi (n := 1) (As := [.int a0]) (rest := []) C (c_fX4_claims rc hk hrc hj σ3 H.size a0 hc15) oC_24 rfl gv_RX4_123 (by decide +kernel) (rmD_le (by omega) (by decide)) rfl rfl (Nat.le_of_ble_eq_true rfl) dX4_opened_11 hP hS hl.1 (fun H locs hP hS => ?_)
    refine lv_if_eq (tgt := 38) hx hb dX4_opened_14 (by decide) (fun c17 => ?_) (fun c17 => ?_)
    · replace hf := it_t c17 hf
      refine lv_iconst (v := 0) hx hb dX4_opened_38 (by decide) ?_
      cases hf
      exact r_zret C rfl hP hS dX4_opened_39
    · replace hf := it_f c17 hf
      refine lv_aload_n hx hb dX4_opened_17 rfl (lv_at hl 0 rfl) ?_
      refine lv_bipush (v := 41) hx hb dX4_opened_18 (by decide) ?_
      obtain ⟨r18, σ20, hc19, hf⟩ := cb_e hf
      refine r_cVi (n := 1) (As := [.int 41]) (rest := []) C (c_fX4_take hj σ16 H.size 41 hc19) oC_24 rfl gv_RX4_120 (by decide +kernel) (rmD_le (by omega) (by decide)) rfl rfl (Nat.le_of_ble_eq_true rfl) dX4_opened_20 hP hS hl.1 (fun H locs hP hS => ?_)
      refine lv_if_ne (tgt := 34) hx hb dX4_opened_23 (by decide) (fun c21 => ?_) (fun c21 => ?_)
      · replace hf := it_f c21 hf
        refine lv_iconst (v := 1) hx hb dX4_opened_34 (by decide) ?_
        refine lv_goto (tgt := 39) hx hb dX4_opened_35 (by decide) ?_
        cases hf
        exact r_zret C rfl hP hS dX4_opened_39
      · replace hf := it_t c21 hf
        refine lv_aload_n hx hb dX4_opened_26 rfl (lv_at hl 0 rfl) ?_
        refine lv_iconst (v := 1) hx hb dX4_opened_27 (by decide) ?_
        obtain ⟨r22, σ24, hc23, hf⟩ := cb_e hf
        refine r_cVi (n := 1) (As := [.int 1]) (rest := []) C (c_fX4_fail hj σ20 H.size 1 hc23) oC_24 rfl gv_RX4_105 (by decide +kernel) (rmD_le (by omega) (by decide)) rfl rfl (Nat.le_of_ble_eq_true rfl) dX4_opened_28 hP hS hl.1 (fun H locs hP hS => ?_)
        refine lv_if_eq (tgt := 38) hx hb dX4_opened_31 (by decide) (fun c25 => ?_) (fun c25 => ?_)
        · replace hf := it_t c25 hf
          refine lv_iconst (v := 0) hx hb dX4_opened_38 (by decide) ?_
          cases hf
          exact r_zret C rfl hP hS dX4_opened_39
        · replace hf := it_f c25 hf
          refine lv_iconst (v := 1) hx hb dX4_opened_34 (by decide) ?_
          refine lv_goto (tgt := 39) hx hb dX4_opened_35 (by decide) ?_
          cases hf
          exact r_zret C rfl hP hS dX4_opened_39
def fX4_claimB_19 (rc : St → Int32 → Option (Int32 × St)) (σ : St) (x1 : Int32) : Option (Int32 × St) :=
(if 8 ≤ x1 then
(cb (fX4_fail σ 3) fun r2 σ4 =>
(zb r2 (some (r2, σ4))))
else
(cb (fX4_opened rc σ (x1 + 1)) fun r5 σ7 =>
(zb r5 (some (r5, σ7)))))
set_option maxHeartbeats 4000000 in
theorem b_fX4_claimB_19 {E : Ev} {l : Launch} {p : Program} {e : Env} {s : State} {m : MethodId} {args : Array Value} {below : List Frame} {meth : Method} {c : Code} (rc : St → Int32 → Option (Int32 × St)) {k : Nat} (hk : 4 ≤ k) (hrc : ∀ (σ : St) (sz : Nat) (a0 : Int32) (rr : Int32) (sr : St), rc σ a0 = some (rr, sr) → Met l yX4_claim (Cond.code yX4_claim cX4_claim 3 (some .boolean) :: gT) (rmD k) (va_Pc [.ref (ea E 24), .int a0] (preW true E σ sz)) (QI true E rr sr sz) 0 0 (aW true E sz)) (C : CX true E RX4 cX4_claim 3 (some .boolean) p s m args meth c) {rr : Int32} {sr : St} : ∀ (σ : St) (x1 : Int32), fX4_claimB_19 rc σ x1 = some (rr, sr) → GW true l (rmD (k + 3)) E 3 p e s m args below meth c (MQ below (QI true E rr sr s.heap.size) args s 0 0 (aW true E s.heap.size)) σ 19 [(0, .ref (ea E 24)), (1, .int x1)] [] := by
  intro σ x1 hf H locs ls hP hS hl
  obtain ⟨hx, hb, hr, hml, hown, hts, hlocks, hK, hX, hj⟩ := id C
  unfold fX4_claimB_19 at hf
  refine lv_iload_n hx hb dX4_claim_19 rfl (lv_at hl 1 rfl) ?_
  refine lv_bipush (v := 8) hx hb dX4_claim_20 (by decide) ?_
  refine lv_icmp_ge (tgt := 35) hx hb dX4_claim_22 (by decide) (fun c1 => ?_) (fun c1 => ?_)
  · replace hf := it_t c1 hf
    refine lv_aload_n hx hb dX4_claim_35 rfl (lv_at hl 0 rfl) ?_
    refine lv_iconst (v := 3) hx hb dX4_claim_36 (by decide) ?_
    obtain ⟨r2, σ4, hc3, hf⟩ := cb_e hf
    refine r_cVi (n := 1) (As := [.int 3]) (rest := []) C (c_fX4_fail hj σ H.size 3 hc3) oC_24 rfl gv_RX4_105 (by decide +kernel) (rmD_le (by omega) (by decide)) rfl rfl (Nat.le_of_ble_eq_true rfl) dX4_claim_37 hP hS hl.1 (fun H locs hP hS => ?_)
    obtain ⟨hz, hf⟩ := zb_e hf
    cases hf
    exact r_zret C (zb_nar hz) hP hS dX4_claim_40
  · replace hf := it_f c1 hf
    refine lv_aload_n hx hb dX4_claim_25 rfl (lv_at hl 0 rfl) ?_
    refine lv_iload_n hx hb dX4_claim_26 rfl (lv_at hl 1 rfl) ?_
    refine lv_iconst (v := 1) hx hb dX4_claim_27 (by decide) ?_
    refine lv_iadd hx hb dX4_claim_28 ?_
    obtain ⟨r5, σ7, hc6, hf⟩ := cb_e hf
    refine r_cVi (n := 1) (As := [.int (x1 + 1)]) (rest := []) C (c_fX4_opened rc hk hrc hj σ H.size (x1 + 1) hc6) oC_24 rfl gv_RX4_145 (by decide +kernel) (rmD_le (by omega) (by decide)) rfl rfl (Nat.le_of_ble_eq_true rfl) dX4_claim_29 hP hS hl.1 (fun H locs hP hS => ?_)
    refine lv_goto (tgt := 40) hx hb dX4_claim_32 (by decide) ?_
    obtain ⟨hz, hf⟩ := zb_e hf
    cases hf
    exact r_zret C (zb_nar hz) hP hS dX4_claim_40
def fX4_claimB_79 (rc : St → Int32 → Option (Int32 × St)) (σ : St) : Option (Int32 × St) :=
(cb (fX4_fail σ 1) fun r1 σ3 =>
(zb r1 (some (r1, σ3))))
set_option maxHeartbeats 4000000 in
theorem b_fX4_claimB_79 {E : Ev} {l : Launch} {p : Program} {e : Env} {s : State} {m : MethodId} {args : Array Value} {below : List Frame} {meth : Method} {c : Code} (rc : St → Int32 → Option (Int32 × St)) {k : Nat} (hk : 4 ≤ k) (hrc : ∀ (σ : St) (sz : Nat) (a0 : Int32) (rr : Int32) (sr : St), rc σ a0 = some (rr, sr) → Met l yX4_claim (Cond.code yX4_claim cX4_claim 3 (some .boolean) :: gT) (rmD k) (va_Pc [.ref (ea E 24), .int a0] (preW true E σ sz)) (QI true E rr sr sz) 0 0 (aW true E sz)) (C : CX true E RX4 cX4_claim 3 (some .boolean) p s m args meth c) {rr : Int32} {sr : St} : ∀ (σ : St), fX4_claimB_79 rc σ = some (rr, sr) → GW true l (rmD (k + 3)) E 3 p e s m args below meth c (MQ below (QI true E rr sr s.heap.size) args s 0 0 (aW true E s.heap.size)) σ 79 [(0, .ref (ea E 24))] [] := by
  intro σ hf H locs ls hP hS hl
  obtain ⟨hx, hb, hr, hml, hown, hts, hlocks, hK, hX, hj⟩ := id C
  unfold fX4_claimB_79 at hf
  refine lv_aload_n hx hb dX4_claim_79 rfl (lv_at hl 0 rfl) ?_
  refine lv_iconst (v := 1) hx hb dX4_claim_80 (by decide) ?_
  obtain ⟨r1, σ3, hc2, hf⟩ := cb_e hf
  refine r_cVi (n := 1) (As := [.int 1]) (rest := []) C (c_fX4_fail hj σ H.size 1 hc2) oC_24 rfl gv_RX4_105 (by decide +kernel) (rmD_le (by omega) (by decide)) rfl rfl (Nat.le_of_ble_eq_true rfl) dX4_claim_81 hP hS hl.1 (fun H locs hP hS => ?_)
  obtain ⟨hz, hf⟩ := zb_e hf
  cases hf
  exact r_zret C (zb_nar hz) hP hS dX4_claim_84
def fX4_claimB (rc : St → Int32 → Option (Int32 × St)) (σ : St) (a0 : Int32) : Option (Int32 × St) :=
(if (σ 24 5) = 259 then
fX4_claimB_19 rc σ a0
else
(if (σ 24 5) = 40 then
fX4_claimB_19 rc σ a0
else
(cb (fX4_sum σ) fun r3 σ5 =>
(if r3 = 0 then
some (0, σ5)
else
(if (σ5 24 5) < 60 then
fX4_claimB_79 rc σ5
else
(if (σ5 24 5) ≤ 62 then
(cv (fX4_advance σ5) fun σ10 =>
(cb (fX4_sum σ10) fun r11 σ13 =>
(if r11 = 0 then
some (0, σ13)
else
(gw (σ13 24 7) fun w15 =>
(cv (fX9_add w15 σ13 ((7 + (σ5 24 5)) - 60) 0) fun σ17 =>
some (1, σ17))))))
else
fX4_claimB_79 rc σ5))))))
set_option maxHeartbeats 4000000 in
theorem c_fX4_claimB {E : Ev} {l : Launch} (rc : St → Int32 → Option (Int32 × St)) {k : Nat} (hk : 4 ≤ k) (hrc : ∀ (σ : St) (sz : Nat) (a0 : Int32) (rr : Int32) (sr : St), rc σ a0 = some (rr, sr) → Met l yX4_claim (Cond.code yX4_claim cX4_claim 3 (some .boolean) :: gT) (rmD k) (va_Pc [.ref (ea E 24), .int a0] (preW true E σ sz)) (QI true E rr sr sz) 0 0 (aW true E sz)) (hj : jW true E) (σ : St) (sz : Nat) (a0 : Int32) {rr : Int32} {sr : St} (hf : fX4_claimB rc σ a0 = some (rr, sr)) : Met l yX4_claim (Cond.code yX4_claim cX4_claim 3 (some .boolean) :: gT) (rmD (k + 3)) (va_Pc [.ref (ea E 24), .int a0] (preW true E σ sz)) (QI true E rr sr sz) 0 0 (aW true E sz) := by
  refine r_entry (QI true E rr sr) hj (by decide) [.ref (ea E 24), .int a0] (Nat.le_of_ble_eq_true rfl) (fun p e s m args below meth c C => ?_)
  intro H locs ls hP hS hl
  have hl : lv_has ls 3 [(0, .ref (ea E 24)), (1, .int a0)] := hl
  obtain ⟨hx, hb, hr, hml, hown, hts, hlocks, hK, hX, hj⟩ := id C
  unfold fX4_claimB at hf
  refine lv_aload_n hx hb dX4_claim_0 rfl (lv_at hl 0 rfl) ?_
  refine r_get (k := 5) (v := .int (σ 24 5)) C hP oC_24 rfl iX4 (by decide) wm_t167 rfl rfl dX4_claim_1 ?_
  refine lv_sipush (v := 259) hx hb dX4_claim_4 (by decide) ?_
  refine lv_icmp_eq (tgt := 19) hx hb dX4_claim_7 (by decide) (fun c1 => ?_) (fun c1 => ?_)
  · replace hf := it_t c1 hf
    exact b_fX4_claimB_19 rc hk hrc C σ a0 hf H locs ls hP hS (lv_sub hl [0, 1] rfl)
  · replace hf := it_f c1 hf
    refine lv_aload_n hx hb dX4_claim_10 rfl (lv_at hl 0 rfl) ?_
    refine r_get (k := 5) (v := .int (σ 24 5)) C hP oC_24 rfl iX4 (by decide) wm_t167 rfl rfl dX4_claim_11 ?_
    refine lv_bipush (v := 40) hx hb dX4_claim_14 (by decide) ?_
    refine lv_icmp_ne (tgt := 41) hx hb dX4_claim_16 (by decide) (fun c2 => ?_) (fun c2 => ?_)
    · replace hf := it_f c2 hf
      refine lv_aload_n hx hb dX4_claim_41 rfl (lv_at hl 0 rfl) ?_
      obtain ⟨r3, σ5, hc4, hf⟩ := cb_e hf
      refine r_cVi (n := 0) (As := []) (rest := []) C (c_fX4_sum hj σ H.size hc4) oC_24 rfl gv_RX4_133 (by decide +kernel) (rmD_le (by omega) (by decide)) rfl rfl (Nat.le_of_ble_eq_true rfl) dX4_claim_42 hP hS hl.1 (fun H locs hP hS => ?_)
      refine lv_if_ne (tgt := 50) hx hb dX4_claim_45 (by decide) (fun c6 => ?_) (fun c6 => ?_)
      · replace hf := it_f c6 hf
        refine lv_bipush (v := 7) hx hb dX4_claim_50 (by decide) ?_
        refine lv_aload_n hx hb dX4_claim_52 rfl (lv_at hl 0 rfl) ?_
        refine r_get (k := 5) (v := .int (σ5 24 5)) C hP oC_24 rfl iX4 (by decide) wm_t167 rfl rfl dX4_claim_53 ?_
        refine lv_iadd hx hb dX4_claim_56 ?_
        refine lv_bipush (v := 60) hx hb dX4_claim_57 (by decide) ?_
        refine lv_isub hx hb dX4_claim_59 ?_
        refine lv_istore_n (lv' := [(2, .int ((7 + (σ5 24 5)) - 60)), (0, .ref (ea E 24)), (1, .int a0)]) hx hb dX4_claim_60 rfl hl (by decide) rfl (fun ls hl => ?_)
        refine lv_aload_n hx hb dX4_claim_61 rfl (lv_at hl 1 rfl) ?_
        refine r_get (k := 5) (v := .int (σ5 24 5)) C hP oC_24 rfl iX4 (by decide) wm_t167 rfl rfl dX4_claim_62 ?_
        refine lv_bipush (v := 60) hx hb dX4_claim_65 (by decide) ?_
        refine lv_icmp_lt (tgt := 79) hx hb dX4_claim_67 (by decide) (fun c7 => ?_) (fun c7 => ?_)
        · replace hf := it_t c7 hf
          exact b_fX4_claimB_79 rc hk hrc C σ5 hf H locs ls hP hS (lv_sub hl [1] rfl)
        · replace hf := it_f c7 hf
          refine lv_aload_n hx hb dX4_claim_70 rfl (lv_at hl 1 rfl) ?_
          refine r_get (k := 5) (v := .int (σ5 24 5)) C hP oC_24 rfl iX4 (by decide) wm_t167 rfl rfl dX4_claim_71 ?_
          refine lv_bipush (v := 62) hx hb dX4_claim_74 (by decide) ?_
          refine lv_icmp_le (tgt := 85) hx hb dX4_claim_76 (by decide) (fun c8 => ?_) (fun c8 => ?_)
          · replace hf := it_t c8 hf
            refine lv_aload_n hx hb dX4_claim_85 rfl (lv_at hl 1 rfl) ?_
            obtain ⟨σ10, hc9, hf⟩ := cv_e hf
            refine r_cVv (n := 0) (As := []) (rest := []) C (c_fX4_advance hj σ5 H.size hc9) oC_24 rfl gv_RX4_95 (by decide +kernel) (rmD_le (by omega) (by decide)) rfl rfl (Nat.le_of_ble_eq_true rfl) dX4_claim_86 hP hS hl.1 (fun H locs hP hS => ?_)
            refine lv_aload_n hx hb dX4_claim_89 rfl (lv_at hl 1 rfl) ?_
            obtain ⟨r11, σ13, hc12, hf⟩ := cb_e hf
            refine r_cVi (n := 0) (As := []) (rest := []) C (c_fX4_sum hj σ10 H.size hc12) oC_24 rfl gv_RX4_133 (by decide +kernel) (rmD_le (by omega) (by decide)) rfl rfl (Nat.le_of_ble_eq_true rfl) dX4_claim_90 hP hS hl.1 (fun H locs hP hS => ?_)
            refine lv_if_ne (tgt := 98) hx hb dX4_claim_93 (by decide) (fun c14 => ?_) (fun c14 => ?_)
            · replace hf := it_f c14 hf
              refine lv_aload_n hx hb dX4_claim_98 rfl (lv_at hl 1 rfl) ?_
              refine r_get (k := 7) (v := .ref (ea E (σ13 24 7).toNatClampNeg)) C hP oC_24 rfl iX4 (by decide) wm_t169 rfl rfl dX4_claim_99 ?_
              obtain ⟨w15, ew15, hw15, hf⟩ := gw_e hf
              rw [ew15]
              refine lv_iload_n hx hb dX4_claim_102 rfl (lv_at hl 0 rfl) ?_
              refine lv_iconst (v := 0) hx hb dX4_claim_103 (by decide) ?_
              obtain ⟨σ17, hc16, hf⟩ := cv_e hf
              refine r_cVv (n := 2) (As := [.int ((7 + (σ5 24 5)) - 60), .int 0]) (rest := []) C (c_fX9_add hw15 hj σ13 H.size ((7 + (σ5 24 5)) - 60) 0 hc16) (oW hw15) rfl gv_RX4_142 (by decide +kernel) (rmD_le (by omega) (by decide)) rfl rfl (Nat.le_of_ble_eq_true rfl) dX4_claim_104 hP hS hl.1 (fun H locs hP hS => ?_)
              refine lv_iconst (v := 1) hx hb dX4_claim_107 (by decide) ?_
              cases hf
              exact r_zret C rfl hP hS dX4_claim_108
            · replace hf := it_t c14 hf
              refine lv_iconst (v := 0) hx hb dX4_claim_96 (by decide) ?_
              cases hf
              exact r_zret C rfl hP hS dX4_claim_97
          · replace hf := it_f c8 hf
            exact b_fX4_claimB_79 rc hk hrc C σ5 hf H locs ls hP hS (lv_sub hl [1] rfl)
      · replace hf := it_t c6 hf
        refine lv_iconst (v := 0) hx hb dX4_claim_48 (by decide) ?_
        cases hf
        exact r_zret C rfl hP hS dX4_claim_49
    · replace hf := it_t c2 hf
      exact b_fX4_claimB_19 rc hk hrc C σ a0 hf H locs ls hP hS (lv_sub hl [0, 1] rfl)
def fX4_claim : Nat → St → Int32 → Option (Int32 × St)
  | 0 => fun _ _ => none
  | n + 1 => fun σ a0 => fX4_claimB (fX4_claim n) σ a0
theorem c_fX4_claim {E : Ev} {l : Launch} (hj : jW true E) : ∀ (n : Nat) (σ : St) (sz : Nat) (a0 : Int32) (rr : Int32) (sr : St), fX4_claim n σ a0 = some (rr, sr) → Met l yX4_claim (Cond.code yX4_claim cX4_claim 3 (some .boolean) :: gT) (rmD (4 + 3 * n)) (va_Pc [.ref (ea E 24), .int a0] (preW true E σ sz)) (QI true E rr sr sz) 0 0 (aW true E sz) := by
  intro n
  induction n with
  | zero => intro σ sz a0 rr sr hf; have hf : (none : Option _) = some _ := hf; cases hf
  | succ n ih =>
    intro σ sz a0 rr sr hf
    have h := c_fX4_claimB (fX4_claim n) (k := 4 + 3 * n) (by omega) ih hj σ sz a0 hf
    rw [show 4 + 3 * (n + 1) = 4 + 3 * n + 3 by omega]
    exact h
def fX4_claimsT (σ : St) (a0 : Int32) : Option (Int32 × St) := fX4_claims (fX4_claim 12) σ a0
theorem c_fX4_claimsT {E : Ev} {l : Launch} (hj : jW true E) (σ : St) (sz : Nat) (a0 : Int32) {rr : Int32} {sr : St} (hf : fX4_claimsT σ a0 = some (rr, sr)) : Met l yX4_claims (Cond.code yX4_claims cX4_claims 5 (some .boolean) :: gT) (rmD 41) (va_Pc [.ref (ea E 24), .int a0] (preW true E σ sz)) (QI true E rr sr sz) 0 0 (aW true E sz) := c_fX4_claims (fX4_claim 12) (k := 4 + 3 * 12) (by decide) (c_fX4_claim hj 12) hj σ sz a0 hf

