def fX11_readSum_42 (rec10 : St → Option (Int32 × St)) (σ : St) (y0 : Int32) : Option (Int32 × St) :=
(cv (fX11_reads σ) fun σ2 =>
(cb (fX11_readProduct σ2) fun r3 σ5 =>
(if r3 = (-1) then
some ((-1), σ5)
else
(cv (fX11_emits σ5 y0 0) fun σ8 =>
rec10 σ8))))
set_option maxHeartbeats 4000000 in
theorem b_fX11_readSum_42 {E : Ev} {l : Launch} {p : Program} {e : Env} {s : State} {m : MethodId} {args : Array Value} {below : List Frame} {meth : Method} {c : Code} (C : CX false E RX11 cX11_readSum 2 (some .int) p s m args meth c) {rr : Int32} {sr : St} (rec10 : St → Option (Int32 × St)) (hr10 : ∀ (σ : St), rec10 σ = some (rr, sr) → GW false l (rmD 6) E 2 p e s m args below meth c (MQ below (QI false E rr sr s.heap.size) args s 0 0 (aW false E s.heap.size)) σ 10 [(0, .ref (ea E 0))] []) : ∀ (σ : St) (y0 : Int32), fX11_readSum_42 rec10 σ y0 = some (rr, sr) → GW false l (rmD 6) E 2 p e s m args below meth c (MQ below (QI false E rr sr s.heap.size) args s 0 0 (aW false E s.heap.size)) σ 42 [(0, .ref (ea E 0))] [.int y0] := by
  intro σ y0 hf H locs ls hP hS hl
  obtain ⟨hx, hb, hr, hml, hown, hts, hlocks, hK, hX, hj⟩ := id C
  unfold fX11_readSum_42 at hf
  refine lv_istore_n (lv' := [(1, .int y0), (0, .ref (ea E 0))]) hx hb dX11_readSum_42 rfl hl (by decide) rfl (fun ls hl => ?_)
  refine lv_aload_n hx hb dX11_readSum_43 rfl (lv_at hl 1 rfl) ?_
  obtain ⟨σ2, hc1, hf⟩ := cv_e hf
  refine r_cVv (n := 0) (As := []) (rest := []) C (c_fX11_reads hj σ H.size hc1) oM_0 rfl gv_RX11_222 (by decide +kernel) (rmD_le (by decide) (by decide)) rfl rfl (Nat.le_of_ble_eq_true rfl) dX11_readSum_44 hP hS hl.1 (fun H locs hP hS => ?_)
  refine lv_aload_n hx hb dX11_readSum_47 rfl (lv_at hl 1 rfl) ?_
  obtain ⟨r3, σ5, hc4, hf⟩ := cb_e hf
  refine r_cVi (n := 0) (As := []) (rest := []) C (c_fX11_readProduct hj σ2 H.size hc4) oM_0 rfl gv_RX11_232 (by decide +kernel) (rmD_le (by decide) (by decide)) rfl rfl (Nat.le_of_ble_eq_true rfl) dX11_readSum_48 hP hS hl.1 (fun H locs hP hS => ?_)
  refine lv_iconst (v := (-1)) hx hb dX11_readSum_51 (by decide) ?_
  refine lv_icmp_ne (tgt := 57) hx hb dX11_readSum_52 (by decide) (fun c6 => ?_) (fun c6 => ?_)
  · replace hf := it_f c6 hf
    refine lv_aload_n hx hb dX11_readSum_57 rfl (lv_at hl 1 rfl) ?_
    refine lv_iload_n hx hb dX11_readSum_58 rfl (lv_at hl 0 rfl) ?_
    refine lv_iconst (v := 0) hx hb dX11_readSum_59 (by decide) ?_
    obtain ⟨σ8, hc7, hf⟩ := cv_e hf
    refine r_cVv (n := 2) (As := [.int y0, .int 0]) (rest := []) C (c_fX11_emits hj σ5 H.size y0 0 hc7) oM_0 rfl gv_RX11_218 (by decide +kernel) (rmD_le (by decide) (by decide)) rfl rfl (Nat.le_of_ble_eq_true rfl) dX11_readSum_60 hP hS hl.1 (fun H locs hP hS => ?_)
    refine lv_goto (tgt := 10) hx hb dX11_readSum_63 (by decide) ?_
    exact hr10 σ8 hf H locs ls hP hS (lv_sub hl [1] rfl)
  · replace hf := it_t c6 hf
    refine lv_iconst (v := (-1)) hx hb dX11_readSum_55 (by decide) ?_
    cases hf
    exact r_iret C hP hS dX11_readSum_56
def fX11_readSum_28 (rec10 : St → Option (Int32 × St)) (σ : St) : Option (Int32 × St) :=
(if (σ 0 22) = 43 then
fX11_readSum_42 rec10 σ 2
else
fX11_readSum_42 rec10 σ 3)
set_option maxHeartbeats 4000000 in
theorem b_fX11_readSum_28 {E : Ev} {l : Launch} {p : Program} {e : Env} {s : State} {m : MethodId} {args : Array Value} {below : List Frame} {meth : Method} {c : Code} (C : CX false E RX11 cX11_readSum 2 (some .int) p s m args meth c) {rr : Int32} {sr : St} (rec10 : St → Option (Int32 × St)) (hr10 : ∀ (σ : St), rec10 σ = some (rr, sr) → GW false l (rmD 6) E 2 p e s m args below meth c (MQ below (QI false E rr sr s.heap.size) args s 0 0 (aW false E s.heap.size)) σ 10 [(0, .ref (ea E 0))] []) : ∀ (σ : St), fX11_readSum_28 rec10 σ = some (rr, sr) → GW false l (rmD 6) E 2 p e s m args below meth c (MQ below (QI false E rr sr s.heap.size) args s 0 0 (aW false E s.heap.size)) σ 28 [(0, .ref (ea E 0))] [] := by
  intro σ hf H locs ls hP hS hl
  obtain ⟨hx, hb, hr, hml, hown, hts, hlocks, hK, hX, hj⟩ := id C
  unfold fX11_readSum_28 at hf
  refine lv_aload_n hx hb dX11_readSum_28 rfl (lv_at hl 0 rfl) ?_
  refine r_get (k := 22) (v := .int (σ 0 22)) C hP oM_0 rfl iX11 (by decide) wm_t1039 rfl rfl dX11_readSum_29 ?_
  refine lv_bipush (v := 43) hx hb dX11_readSum_32 (by decide) ?_
  refine lv_icmp_ne (tgt := 41) hx hb dX11_readSum_34 (by decide) (fun c1 => ?_) (fun c1 => ?_)
  · replace hf := it_f c1 hf
    refine lv_iconst (v := 3) hx hb dX11_readSum_41 (by decide) ?_
    exact b_fX11_readSum_42 C rec10 hr10 σ 3 hf H locs ls hP hS (lv_sub hl [0] rfl)
  · replace hf := it_t c1 hf
    refine lv_iconst (v := 2) hx hb dX11_readSum_37 (by decide) ?_
    refine lv_goto (tgt := 42) hx hb dX11_readSum_38 (by decide) ?_
    exact b_fX11_readSum_42 C rec10 hr10 σ 2 hf H locs ls hP hS (lv_sub hl [0] rfl)
def fX11_readSum_10B (rec10 : St → Option (Int32 × St)) (σ : St) : Option (Int32 × St) :=
(if (fX11_isSign σ 43) = 0 then
(if (fX11_isSign σ 45) = 0 then
some (0, σ)
else
fX11_readSum_28 rec10 σ)
else
fX11_readSum_28 rec10 σ)
set_option maxHeartbeats 4000000 in
theorem b_fX11_readSum_10B {E : Ev} {l : Launch} {p : Program} {e : Env} {s : State} {m : MethodId} {args : Array Value} {below : List Frame} {meth : Method} {c : Code} (C : CX false E RX11 cX11_readSum 2 (some .int) p s m args meth c) {rr : Int32} {sr : St} (rec10 : St → Option (Int32 × St)) (hr10 : ∀ (σ : St), rec10 σ = some (rr, sr) → GW false l (rmD 6) E 2 p e s m args below meth c (MQ below (QI false E rr sr s.heap.size) args s 0 0 (aW false E s.heap.size)) σ 10 [(0, .ref (ea E 0))] []) : ∀ (σ : St), fX11_readSum_10B rec10 σ = some (rr, sr) → GW false l (rmD 6) E 2 p e s m args below meth c (MQ below (QI false E rr sr s.heap.size) args s 0 0 (aW false E s.heap.size)) σ 10 [(0, .ref (ea E 0))] [] := by
  intro σ hf H locs ls hP hS hl
  obtain ⟨hx, hb, hr, hml, hown, hts, hlocks, hK, hX, hj⟩ := id C
  unfold fX11_readSum_10B at hf
  refine lv_aload_n hx hb dX11_readSum_10 rfl (lv_at hl 0 rfl) ?_
  refine lv_bipush (v := 43) hx hb dX11_readSum_11 (by decide) ?_
  refine r_cVi (n := 1) (As := [.int 43]) (rest := []) C (c_fX11_isSign hj σ H.size 43) oM_0 rfl gv_RX11_229 (by decide +kernel) (rmD_le (by decide) (by decide)) rfl rfl (Nat.le_of_ble_eq_true rfl) dX11_readSum_13 hP hS hl.1 (fun H locs hP hS => ?_)
  refine lv_if_ne (tgt := 28) hx hb dX11_readSum_16 (by decide) (fun c1 => ?_) (fun c1 => ?_)
  · replace hf := it_f c1 hf
    exact b_fX11_readSum_28 C rec10 hr10 σ hf H locs ls hP hS (lv_sub hl [0] rfl)
  · replace hf := it_t c1 hf
    refine lv_aload_n hx hb dX11_readSum_19 rfl (lv_at hl 0 rfl) ?_
    refine lv_bipush (v := 45) hx hb dX11_readSum_20 (by decide) ?_
    refine r_cVi (n := 1) (As := [.int 45]) (rest := []) C (c_fX11_isSign hj σ H.size 45) oM_0 rfl gv_RX11_229 (by decide +kernel) (rmD_le (by decide) (by decide)) rfl rfl (Nat.le_of_ble_eq_true rfl) dX11_readSum_22 hP hS hl.1 (fun H locs hP hS => ?_)
    refine lv_if_eq (tgt := 66) hx hb dX11_readSum_25 (by decide) (fun c2 => ?_) (fun c2 => ?_)
    · replace hf := it_t c2 hf
      refine lv_iconst (v := 0) hx hb dX11_readSum_66 (by decide) ?_
      cases hf
      exact r_iret C hP hS dX11_readSum_67
    · replace hf := it_f c2 hf
      exact b_fX11_readSum_28 C rec10 hr10 σ hf H locs ls hP hS (lv_sub hl [0] rfl)
def fX11_readSum_10 : Nat → St → Option (Int32 × St)
  | 0 => fun _ => none
  | n + 1 => fun σ => fX11_readSum_10B (fX11_readSum_10 n) σ
theorem b_fX11_readSum_10 {E : Ev} {l : Launch} {p : Program} {e : Env} {s : State} {m : MethodId} {args : Array Value} {below : List Frame} {meth : Method} {c : Code} (C : CX false E RX11 cX11_readSum 2 (some .int) p s m args meth c) {rr : Int32} {sr : St} : ∀ (n : Nat) (σ : St), fX11_readSum_10 n σ = some (rr, sr) → GW false l (rmD 6) E 2 p e s m args below meth c (MQ below (QI false E rr sr s.heap.size) args s 0 0 (aW false E s.heap.size)) σ 10 [(0, .ref (ea E 0))] [] := by
  intro n
  induction n with
  | zero => intro σ hf; have hf : (none : Option _) = some _ := hf; cases hf
  | succ n ih => intro σ hf; exact b_fX11_readSum_10B C (fX11_readSum_10 n) ih σ hf
def fX11_readSum (σ : St) : Option (Int32 × St) :=
(cb (fX11_readProduct σ) fun r1 σ3 =>
(if r1 = (-1) then
some ((-1), σ3)
else
fX11_readSum_10 FU σ3))
set_option maxHeartbeats 4000000 in
theorem c_fX11_readSum {E : Ev} {l : Launch} (hj : jW false E) (σ : St) (sz : Nat) {rr : Int32} {sr : St} (hf : fX11_readSum σ = some (rr, sr)) : Met l yX11_readSum (Cond.code yX11_readSum cX11_readSum 2 (some .int) :: gT) (rmD 6) (va_Pc [.ref (ea E 0)] (preW false E σ sz)) (QI false E rr sr sz) 0 0 (aW false E sz) := by
  refine r_entry (QI false E rr sr) hj (by decide) [.ref (ea E 0)] (Nat.le_of_ble_eq_true rfl) (fun p e s m args below meth c C => ?_)
  intro H locs ls hP hS hl
  have hl : lv_has ls 2 [(0, .ref (ea E 0))] := hl
  obtain ⟨hx, hb, hr, hml, hown, hts, hlocks, hK, hX, hj⟩ := id C
  unfold fX11_readSum at hf
  refine lv_aload_n hx hb dX11_readSum_0 rfl (lv_at hl 0 rfl) ?_
  obtain ⟨r1, σ3, hc2, hf⟩ := cb_e hf
  refine r_cVi (n := 0) (As := []) (rest := []) C (c_fX11_readProduct hj σ H.size hc2) oM_0 rfl gv_RX11_232 (by decide +kernel) (rmD_le (by decide) (by decide)) rfl rfl (Nat.le_of_ble_eq_true rfl) dX11_readSum_1 hP hS hl.1 (fun H locs hP hS => ?_)
  refine lv_iconst (v := (-1)) hx hb dX11_readSum_4 (by decide) ?_
  refine lv_icmp_ne (tgt := 10) hx hb dX11_readSum_5 (by decide) (fun c4 => ?_) (fun c4 => ?_)
  · replace hf := it_f c4 hf
    exact b_fX11_readSum_10 C FU σ3 hf H locs ls hP hS (lv_sub hl [0] rfl)
  · replace hf := it_t c4 hf
    refine lv_iconst (v := (-1)) hx hb dX11_readSum_8 (by decide) ?_
    cases hf
    exact r_iret C hP hS dX11_readSum_9
def fX11_readCompared_73 (σ : St) (y0 : Int32) : Option (Int32 × St) :=
(cv (fX11_reads σ) fun σ2 =>
(cb (fX11_readSum σ2) fun r3 σ5 =>
(if r3 = (-1) then
some ((-1), σ5)
else
(cv (fX11_emits σ5 y0 0) fun σ8 =>
some (0, σ8)))))
set_option maxHeartbeats 4000000 in
theorem b_fX11_readCompared_73 {E : Ev} {l : Launch} {p : Program} {e : Env} {s : State} {m : MethodId} {args : Array Value} {below : List Frame} {meth : Method} {c : Code} (C : CX false E RX11 cX11_readCompared 2 (some .int) p s m args meth c) {rr : Int32} {sr : St} : ∀ (σ : St) (y0 : Int32), fX11_readCompared_73 σ y0 = some (rr, sr) → GW false l (rmD 7) E 2 p e s m args below meth c (MQ below (QI false E rr sr s.heap.size) args s 0 0 (aW false E s.heap.size)) σ 73 [(0, .ref (ea E 0))] [.int y0] := by
  intro σ y0 hf H locs ls hP hS hl
  obtain ⟨hx, hb, hr, hml, hown, hts, hlocks, hK, hX, hj⟩ := id C
  unfold fX11_readCompared_73 at hf
  refine lv_istore_n (lv' := [(1, .int y0), (0, .ref (ea E 0))]) hx hb dX11_readCompared_73 rfl hl (by decide) rfl (fun ls hl => ?_)
  refine lv_aload_n hx hb dX11_readCompared_74 rfl (lv_at hl 1 rfl) ?_
  obtain ⟨σ2, hc1, hf⟩ := cv_e hf
  refine r_cVv (n := 0) (As := []) (rest := []) C (c_fX11_reads hj σ H.size hc1) oM_0 rfl gv_RX11_222 (by decide +kernel) (rmD_le (by decide) (by decide)) rfl rfl (Nat.le_of_ble_eq_true rfl) dX11_readCompared_75 hP hS hl.1 (fun H locs hP hS => ?_)
  refine lv_aload_n hx hb dX11_readCompared_78 rfl (lv_at hl 1 rfl) ?_
  obtain ⟨r3, σ5, hc4, hf⟩ := cb_e hf
  refine r_cVi (n := 0) (As := []) (rest := []) C (c_fX11_readSum hj σ2 H.size hc4) oM_0 rfl gv_RX11_235 (by decide +kernel) (rmD_le (by decide) (by decide)) rfl rfl (Nat.le_of_ble_eq_true rfl) dX11_readCompared_79 hP hS hl.1 (fun H locs hP hS => ?_)
  refine lv_iconst (v := (-1)) hx hb dX11_readCompared_82 (by decide) ?_
  refine lv_icmp_ne (tgt := 88) hx hb dX11_readCompared_83 (by decide) (fun c6 => ?_) (fun c6 => ?_)
  · replace hf := it_f c6 hf
    refine lv_aload_n hx hb dX11_readCompared_88 rfl (lv_at hl 1 rfl) ?_
    refine lv_iload_n hx hb dX11_readCompared_89 rfl (lv_at hl 0 rfl) ?_
    refine lv_iconst (v := 0) hx hb dX11_readCompared_90 (by decide) ?_
    obtain ⟨σ8, hc7, hf⟩ := cv_e hf
    refine r_cVv (n := 2) (As := [.int y0, .int 0]) (rest := []) C (c_fX11_emits hj σ5 H.size y0 0 hc7) oM_0 rfl gv_RX11_218 (by decide +kernel) (rmD_le (by decide) (by decide)) rfl rfl (Nat.le_of_ble_eq_true rfl) dX11_readCompared_91 hP hS hl.1 (fun H locs hP hS => ?_)
    refine lv_iconst (v := 0) hx hb dX11_readCompared_94 (by decide) ?_
    cases hf
    exact r_iret C hP hS dX11_readCompared_95
  · replace hf := it_t c6 hf
    refine lv_iconst (v := (-1)) hx hb dX11_readCompared_86 (by decide) ?_
    cases hf
    exact r_iret C hP hS dX11_readCompared_87
def fX11_readCompared_43 (σ : St) : Option (Int32 × St) :=
(if (σ 0 22) = 60 then
fX11_readCompared_73 σ 6
else
(if (σ 0 22) = 61 then
fX11_readCompared_73 σ 7
else
fX11_readCompared_73 σ 8))
set_option maxHeartbeats 4000000 in
theorem b_fX11_readCompared_43 {E : Ev} {l : Launch} {p : Program} {e : Env} {s : State} {m : MethodId} {args : Array Value} {below : List Frame} {meth : Method} {c : Code} (C : CX false E RX11 cX11_readCompared 2 (some .int) p s m args meth c) {rr : Int32} {sr : St} : ∀ (σ : St), fX11_readCompared_43 σ = some (rr, sr) → GW false l (rmD 7) E 2 p e s m args below meth c (MQ below (QI false E rr sr s.heap.size) args s 0 0 (aW false E s.heap.size)) σ 43 [(0, .ref (ea E 0))] [] := by
  intro σ hf H locs ls hP hS hl
  obtain ⟨hx, hb, hr, hml, hown, hts, hlocks, hK, hX, hj⟩ := id C
  unfold fX11_readCompared_43 at hf
  refine lv_aload_n hx hb dX11_readCompared_43 rfl (lv_at hl 0 rfl) ?_
  refine r_get (k := 22) (v := .int (σ 0 22)) C hP oM_0 rfl iX11 (by decide) wm_t1039 rfl rfl dX11_readCompared_44 ?_
  refine lv_bipush (v := 60) hx hb dX11_readCompared_47 (by decide) ?_
  refine lv_icmp_ne (tgt := 57) hx hb dX11_readCompared_49 (by decide) (fun c1 => ?_) (fun c1 => ?_)
  · replace hf := it_f c1 hf
    refine lv_aload_n hx hb dX11_readCompared_57 rfl (lv_at hl 0 rfl) ?_
    refine r_get (k := 22) (v := .int (σ 0 22)) C hP oM_0 rfl iX11 (by decide) wm_t1039 rfl rfl dX11_readCompared_58 ?_
    refine lv_bipush (v := 61) hx hb dX11_readCompared_61 (by decide) ?_
    refine lv_icmp_ne (tgt := 71) hx hb dX11_readCompared_63 (by decide) (fun c2 => ?_) (fun c2 => ?_)
    · replace hf := it_f c2 hf
      refine lv_bipush (v := 8) hx hb dX11_readCompared_71 (by decide) ?_
      exact b_fX11_readCompared_73 C σ 8 hf H locs ls hP hS (lv_sub hl [0] rfl)
    · replace hf := it_t c2 hf
      refine lv_bipush (v := 7) hx hb dX11_readCompared_66 (by decide) ?_
      refine lv_goto (tgt := 73) hx hb dX11_readCompared_68 (by decide) ?_
      exact b_fX11_readCompared_73 C σ 7 hf H locs ls hP hS (lv_sub hl [0] rfl)
  · replace hf := it_t c1 hf
    refine lv_bipush (v := 6) hx hb dX11_readCompared_52 (by decide) ?_
    refine lv_goto (tgt := 73) hx hb dX11_readCompared_54 (by decide) ?_
    exact b_fX11_readCompared_73 C σ 6 hf H locs ls hP hS (lv_sub hl [0] rfl)
def fX11_readCompared (σ : St) : Option (Int32 × St) :=
(cb (fX11_readSum σ) fun r1 σ3 =>
(if r1 = (-1) then
some ((-1), σ3)
else
(if (fX11_isSign σ3 60) = 0 then
(if (fX11_isSign σ3 61) = 0 then
(if (fX11_isSign σ3 62) = 0 then
(cb (fX11_fails σ3 1) fun r8 σ10 =>
some (r8, σ10))
else
fX11_readCompared_43 σ3)
else
fX11_readCompared_43 σ3)
else
fX11_readCompared_43 σ3)))
set_option maxHeartbeats 4000000 in
theorem c_fX11_readCompared {E : Ev} {l : Launch} (hj : jW false E) (σ : St) (sz : Nat) {rr : Int32} {sr : St} (hf : fX11_readCompared σ = some (rr, sr)) : Met l yX11_readCompared (Cond.code yX11_readCompared cX11_readCompared 2 (some .int) :: gT) (rmD 7) (va_Pc [.ref (ea E 0)] (preW false E σ sz)) (QI false E rr sr sz) 0 0 (aW false E sz) := by
  refine r_entry (QI false E rr sr) hj (by decide) [.ref (ea E 0)] (Nat.le_of_ble_eq_true rfl) (fun p e s m args below meth c C => ?_)
  intro H locs ls hP hS hl
  have hl : lv_has ls 2 [(0, .ref (ea E 0))] := hl
  obtain ⟨hx, hb, hr, hml, hown, hts, hlocks, hK, hX, hj⟩ := id C
  unfold fX11_readCompared at hf
  refine lv_aload_n hx hb dX11_readCompared_0 rfl (lv_at hl 0 rfl) ?_
  obtain ⟨r1, σ3, hc2, hf⟩ := cb_e hf
  refine r_cVi (n := 0) (As := []) (rest := []) C (c_fX11_readSum hj σ H.size hc2) oM_0 rfl gv_RX11_235 (by decide +kernel) (rmD_le (by decide) (by decide)) rfl rfl (Nat.le_of_ble_eq_true rfl) dX11_readCompared_1 hP hS hl.1 (fun H locs hP hS => ?_)
  refine lv_iconst (v := (-1)) hx hb dX11_readCompared_4 (by decide) ?_
  refine lv_icmp_ne (tgt := 10) hx hb dX11_readCompared_5 (by decide) (fun c4 => ?_) (fun c4 => ?_)
  · replace hf := it_f c4 hf
    refine lv_aload_n hx hb dX11_readCompared_10 rfl (lv_at hl 0 rfl) ?_
    refine lv_bipush (v := 60) hx hb dX11_readCompared_11 (by decide) ?_
    refine r_cVi (n := 1) (As := [.int 60]) (rest := []) C (c_fX11_isSign hj σ3 H.size 60) oM_0 rfl gv_RX11_229 (by decide +kernel) (rmD_le (by decide) (by decide)) rfl rfl (Nat.le_of_ble_eq_true rfl) dX11_readCompared_13 hP hS hl.1 (fun H locs hP hS => ?_)
    refine lv_if_ne (tgt := 43) hx hb dX11_readCompared_16 (by decide) (fun c5 => ?_) (fun c5 => ?_)
    · replace hf := it_f c5 hf
      exact b_fX11_readCompared_43 C σ3 hf H locs ls hP hS (lv_sub hl [0] rfl)
    · replace hf := it_t c5 hf
      refine lv_aload_n hx hb dX11_readCompared_19 rfl (lv_at hl 0 rfl) ?_
      refine lv_bipush (v := 61) hx hb dX11_readCompared_20 (by decide) ?_
      refine r_cVi (n := 1) (As := [.int 61]) (rest := []) C (c_fX11_isSign hj σ3 H.size 61) oM_0 rfl gv_RX11_229 (by decide +kernel) (rmD_le (by decide) (by decide)) rfl rfl (Nat.le_of_ble_eq_true rfl) dX11_readCompared_22 hP hS hl.1 (fun H locs hP hS => ?_)
      refine lv_if_ne (tgt := 43) hx hb dX11_readCompared_25 (by decide) (fun c6 => ?_) (fun c6 => ?_)
      · replace hf := it_f c6 hf
        exact b_fX11_readCompared_43 C σ3 hf H locs ls hP hS (lv_sub hl [0] rfl)
      · replace hf := it_t c6 hf
        refine lv_aload_n hx hb dX11_readCompared_28 rfl (lv_at hl 0 rfl) ?_
        refine lv_bipush (v := 62) hx hb dX11_readCompared_29 (by decide) ?_
        refine r_cVi (n := 1) (As := [.int 62]) (rest := []) C (c_fX11_isSign hj σ3 H.size 62) oM_0 rfl gv_RX11_229 (by decide +kernel) (rmD_le (by decide) (by decide)) rfl rfl (Nat.le_of_ble_eq_true rfl) dX11_readCompared_31 hP hS hl.1 (fun H locs hP hS => ?_)
        refine lv_if_ne (tgt := 43) hx hb dX11_readCompared_34 (by decide) (fun c7 => ?_) (fun c7 => ?_)
        · replace hf := it_f c7 hf
          exact b_fX11_readCompared_43 C σ3 hf H locs ls hP hS (lv_sub hl [0] rfl)
        · replace hf := it_t c7 hf
          refine lv_aload_n hx hb dX11_readCompared_37 rfl (lv_at hl 0 rfl) ?_
          refine lv_iconst (v := 1) hx hb dX11_readCompared_38 (by decide) ?_
          obtain ⟨r8, σ10, hc9, hf⟩ := cb_e hf
          refine r_cVi (n := 1) (As := [.int 1]) (rest := []) C (c_fX11_fails hj σ3 H.size 1 hc9) oM_0 rfl gv_RX11_215 (by decide +kernel) (rmD_le (by decide) (by decide)) rfl rfl (Nat.le_of_ble_eq_true rfl) dX11_readCompared_39 hP hS hl.1 (fun H locs hP hS => ?_)
          cases hf
          exact r_iret C hP hS dX11_readCompared_42
  · replace hf := it_t c4 hf
    refine lv_iconst (v := (-1)) hx hb dX11_readCompared_8 (by decide) ?_
    cases hf
    exact r_iret C hP hS dX11_readCompared_9
def fX11_waits (σ : St) (a0 : Int32) : Option St :=
(wrK 40 σ 23 (σ 0 36) a0 fun σ1 =>
(nmS (st_put σ1 0 36 ((σ1 0 36) + 1)) fun σ3 =>
some σ3))
set_option maxHeartbeats 4000000 in
theorem c_fX11_waits {E : Ev} {l : Launch} (hj : jW false E) (σ : St) (sz : Nat) (a0 : Int32) {sr : St} (hf : fX11_waits σ a0 = some sr) : Met l yX11_waits (Cond.code yX11_waits cX11_waits 2 none :: gT) (rmD 1) (va_Pc [.ref (ea E 0), .int a0] (preW false E σ sz)) (QV false E sr sz) 0 0 (aW false E sz) := by
  refine r_entry (QV false E sr) hj (by decide) [.ref (ea E 0), .int a0] (Nat.le_of_ble_eq_true rfl) (fun p e s m args below meth c C => ?_)
  intro H locs ls hP hS hl
  have hl : lv_has ls 2 [(0, .ref (ea E 0)), (1, .int a0)] := hl
  obtain ⟨hx, hb, hr, hml, hown, hts, hlocks, hK, hX, hj⟩ := id C
  unfold fX11_waits at hf
  refine lv_aload_n hx hb dX11_waits_0 rfl (lv_at hl 0 rfl) ?_
  refine r_get (k := 35) (v := .ref (ea E 23)) C hP oM_0 rfl iX11 (by decide) wm_t1052 rfl rfl dX11_waits_1 ?_
  refine lv_aload_n hx hb dX11_waits_4 rfl (lv_at hl 0 rfl) ?_
  refine r_get (k := 36) (v := .int (σ 0 36)) C hP oM_0 rfl iX11 (by decide) wm_t1053 rfl rfl dX11_waits_5 ?_
  refine lv_iload_n hx hb dX11_waits_8 rfl (lv_at hl 1 rfl) ?_
  obtain ⟨h2, σ1, eσ1, hf⟩ := wrK_e hf
  refine r_ast C hP hS aM_23 h2 dX11_waits_9 (fun H locs hP hS => ?_)
  rw [← eσ1] at hP
  refine lv_aload_n hx hb dX11_waits_10 rfl (lv_at hl 0 rfl) ?_
  refine lv_aload_n hx hb dX11_waits_11 rfl (lv_at hl 0 rfl) ?_
  refine r_get (k := 36) (v := .int (σ1 0 36)) C hP oM_0 rfl iX11 (by decide) wm_t1053 rfl rfl dX11_waits_12 ?_
  refine lv_iconst (v := 1) hx hb dX11_waits_15 (by decide) ?_
  refine lv_iadd hx hb dX11_waits_16 ?_
  refine r_put (k := 36) (x := ((σ1 0 36) + 1)) C hP hS tyX11 tyX11_ok nmX11 oM_0 rfl iX11 (by decide) wm_t1053 rfl rfl sM_0_36 rfl rfl (Nat.le_of_ble_eq_true rfl) dX11_waits_17 (fun H locs hP hS => ?_)
  obtain ⟨σ3, eσ3, hf⟩ := nmS_e hf
  rw [← eσ3] at hP
  cases hf
  exact r_vret C hP hS dX11_waits_20
def fX11_settles_0B (rec0 : St → Int32 → Option St) (σ : St) (x1 : Int32) : Option St :=
(if (σ 0 36) ≤ 0 then
some σ
else
(rdK 40 (σ 23) ((σ 0 36) - 1) fun v2 =>
(if v2 = x1 then
(nmS (st_put σ 0 36 ((σ 0 36) - 1)) fun σ5 =>
(cv (fX11_emits σ5 x1 0) fun σ7 =>
(if x1 = 9 then
(nmS (st_put σ7 0 34 ((σ7 0 34) - 1)) fun σ9 =>
rec0 σ9 x1)
else
rec0 σ7 x1)))
else
some σ)))
set_option maxHeartbeats 4000000 in
theorem b_fX11_settles_0B {E : Ev} {l : Launch} {p : Program} {e : Env} {s : State} {m : MethodId} {args : Array Value} {below : List Frame} {meth : Method} {c : Code} (C : CX false E RX11 cX11_settles 2 none p s m args meth c) {sr : St} (rec0 : St → Int32 → Option St) (hr0 : ∀ (σ : St) (x1 : Int32), rec0 σ x1 = some sr → GW false l (rmD 2) E 2 p e s m args below meth c (MQ below (QV false E sr s.heap.size) args s 0 0 (aW false E s.heap.size)) σ 0 [(0, .ref (ea E 0)), (1, .int x1)] []) : ∀ (σ : St) (x1 : Int32), fX11_settles_0B rec0 σ x1 = some sr → GW false l (rmD 2) E 2 p e s m args below meth c (MQ below (QV false E sr s.heap.size) args s 0 0 (aW false E s.heap.size)) σ 0 [(0, .ref (ea E 0)), (1, .int x1)] [] := by
  intro σ x1 hf H locs ls hP hS hl
  obtain ⟨hx, hb, hr, hml, hown, hts, hlocks, hK, hX, hj⟩ := id C
  unfold fX11_settles_0B at hf
  refine lv_aload_n hx hb dX11_settles_0 rfl (lv_at hl 0 rfl) ?_
  refine r_get (k := 36) (v := .int (σ 0 36)) C hP oM_0 rfl iX11 (by decide) wm_t1053 rfl rfl dX11_settles_1 ?_
  refine lv_if_le (tgt := 57) hx hb dX11_settles_4 (by decide) (fun c1 => ?_) (fun c1 => ?_)
  · replace hf := it_t c1 hf
    cases hf
    exact r_vret C hP hS dX11_settles_57
  · replace hf := it_f c1 hf
    refine lv_aload_n hx hb dX11_settles_7 rfl (lv_at hl 0 rfl) ?_
    refine r_get (k := 35) (v := .ref (ea E 23)) C hP oM_0 rfl iX11 (by decide) wm_t1052 rfl rfl dX11_settles_8 ?_
    refine lv_aload_n hx hb dX11_settles_11 rfl (lv_at hl 0 rfl) ?_
    refine r_get (k := 36) (v := .int (σ 0 36)) C hP oM_0 rfl iX11 (by decide) wm_t1053 rfl rfl dX11_settles_12 ?_
    refine lv_iconst (v := 1) hx hb dX11_settles_15 (by decide) ?_
    refine lv_isub hx hb dX11_settles_16 ?_
    have h3 := (rdK_e hf).1
    refine r_ald C hP aM_23 h3 dX11_settles_17 ?_
    refine lv_topi (fun v2 ev2 => ?_)
    replace hf := rdK_n ev2 hf
    refine lv_iload_n hx hb dX11_settles_18 rfl (lv_at hl 1 rfl) ?_
    refine lv_icmp_ne (tgt := 57) hx hb dX11_settles_19 (by decide) (fun c4 => ?_) (fun c4 => ?_)
    · replace hf := it_f c4 hf
      cases hf
      exact r_vret C hP hS dX11_settles_57
    · replace hf := it_t c4 hf
      refine lv_aload_n hx hb dX11_settles_22 rfl (lv_at hl 0 rfl) ?_
      refine lv_aload_n hx hb dX11_settles_23 rfl (lv_at hl 0 rfl) ?_
      refine r_get (k := 36) (v := .int (σ 0 36)) C hP oM_0 rfl iX11 (by decide) wm_t1053 rfl rfl dX11_settles_24 ?_
      refine lv_iconst (v := 1) hx hb dX11_settles_27 (by decide) ?_
      refine lv_isub hx hb dX11_settles_28 ?_
      refine r_put (k := 36) (x := ((σ 0 36) - 1)) C hP hS tyX11 tyX11_ok nmX11 oM_0 rfl iX11 (by decide) wm_t1053 rfl rfl sM_0_36 rfl rfl (Nat.le_of_ble_eq_true rfl) dX11_settles_29 (fun H locs hP hS => ?_)
      obtain ⟨σ5, eσ5, hf⟩ := nmS_e hf
      rw [← eσ5] at hP
      refine lv_aload_n hx hb dX11_settles_32 rfl (lv_at hl 0 rfl) ?_
      refine lv_iload_n hx hb dX11_settles_33 rfl (lv_at hl 1 rfl) ?_
      refine lv_iconst (v := 0) hx hb dX11_settles_34 (by decide) ?_
      obtain ⟨σ7, hc6, hf⟩ := cv_e hf
      refine r_cVv (n := 2) (As := [.int x1, .int 0]) (rest := []) C (c_fX11_emits hj σ5 H.size x1 0 hc6) oM_0 rfl gv_RX11_218 (by decide +kernel) (rmD_le (by decide) (by decide)) rfl rfl (Nat.le_of_ble_eq_true rfl) dX11_settles_35 hP hS hl.1 (fun H locs hP hS => ?_)
      refine lv_iload_n hx hb dX11_settles_38 rfl (lv_at hl 1 rfl) ?_
      refine lv_bipush (v := 9) hx hb dX11_settles_39 (by decide) ?_
      refine lv_icmp_ne (tgt := 0) hx hb dX11_settles_41 (by decide) (fun c8 => ?_) (fun c8 => ?_)
      · replace hf := it_f c8 hf
        exact hr0 σ7 x1 hf H locs ls hP hS (lv_sub hl [0, 1] rfl)
      · replace hf := it_t c8 hf
        refine lv_aload_n hx hb dX11_settles_44 rfl (lv_at hl 0 rfl) ?_
        refine lv_aload_n hx hb dX11_settles_45 rfl (lv_at hl 0 rfl) ?_
        refine r_get (k := 34) (v := .int (σ7 0 34)) C hP oM_0 rfl iX11 (by decide) wm_t1051 rfl rfl dX11_settles_46 ?_
        refine lv_iconst (v := 1) hx hb dX11_settles_49 (by decide) ?_
        refine lv_isub hx hb dX11_settles_50 ?_
        refine r_put (k := 34) (x := ((σ7 0 34) - 1)) C hP hS tyX11 tyX11_ok nmX11 oM_0 rfl iX11 (by decide) wm_t1051 rfl rfl sM_0_34 rfl rfl (Nat.le_of_ble_eq_true rfl) dX11_settles_51 (fun H locs hP hS => ?_)
        obtain ⟨σ9, eσ9, hf⟩ := nmS_e hf
        rw [← eσ9] at hP
        refine lv_goto (tgt := 0) hx hb dX11_settles_54 (by decide) ?_
        exact hr0 σ9 x1 hf H locs ls hP hS (lv_sub hl [0, 1] rfl)
def fX11_settles_0 : Nat → St → Int32 → Option St
  | 0 => fun _ _ => none
  | n + 1 => fun σ x1 => fX11_settles_0B (fX11_settles_0 n) σ x1
theorem b_fX11_settles_0 {E : Ev} {l : Launch} {p : Program} {e : Env} {s : State} {m : MethodId} {args : Array Value} {below : List Frame} {meth : Method} {c : Code} (C : CX false E RX11 cX11_settles 2 none p s m args meth c) {sr : St} : ∀ (n : Nat) (σ : St) (x1 : Int32), fX11_settles_0 n σ x1 = some sr → GW false l (rmD 2) E 2 p e s m args below meth c (MQ below (QV false E sr s.heap.size) args s 0 0 (aW false E s.heap.size)) σ 0 [(0, .ref (ea E 0)), (1, .int x1)] [] := by
  intro n
  induction n with
  | zero => intro σ x1 hf; have hf : (none : Option _) = some _ := hf; cases hf
  | succ n ih => intro σ x1 hf; exact b_fX11_settles_0B C (fX11_settles_0 n) ih σ x1 hf
def fX11_settles (σ : St) (a0 : Int32) : Option St :=
fX11_settles_0 FU σ a0
set_option maxHeartbeats 4000000 in
theorem c_fX11_settles {E : Ev} {l : Launch} (hj : jW false E) (σ : St) (sz : Nat) (a0 : Int32) {sr : St} (hf : fX11_settles σ a0 = some sr) : Met l yX11_settles (Cond.code yX11_settles cX11_settles 2 none :: gT) (rmD 2) (va_Pc [.ref (ea E 0), .int a0] (preW false E σ sz)) (QV false E sr sz) 0 0 (aW false E sz) := by
  refine r_entry (QV false E sr) hj (by decide) [.ref (ea E 0), .int a0] (Nat.le_of_ble_eq_true rfl) (fun p e s m args below meth c C => ?_)
  intro H locs ls hP hS hl
  have hl : lv_has ls 2 [(0, .ref (ea E 0)), (1, .int a0)] := hl
  obtain ⟨hx, hb, hr, hml, hown, hts, hlocks, hK, hX, hj⟩ := id C
  unfold fX11_settles at hf
  exact b_fX11_settles_0 C FU σ a0 hf H locs ls hP hS (lv_sub hl [0, 1] rfl)
def fX11_readAny_78 (rec9 : St → Int32 → Int32 → Option (Int32 × St)) (σ : St) (x1 : Int32) (x2 : Int32) (y0 : Int32) : Option (Int32 × St) :=
(cv (fX11_waits σ y0) fun σ2 =>
(cv (fX11_reads σ2) fun σ4 =>
rec9 σ4 x1 x2))
set_option maxHeartbeats 4000000 in
theorem b_fX11_readAny_78 {E : Ev} {l : Launch} {p : Program} {e : Env} {s : State} {m : MethodId} {args : Array Value} {below : List Frame} {meth : Method} {c : Code} (C : CX false E RX11 cX11_readAny 4 (some .int) p s m args meth c) {rr : Int32} {sr : St} (rec9 : St → Int32 → Int32 → Option (Int32 × St)) (hr9 : ∀ (σ : St) (x1 : Int32) (x2 : Int32), rec9 σ x1 x2 = some (rr, sr) → GW false l (rmD 8) E 4 p e s m args below meth c (MQ below (QI false E rr sr s.heap.size) args s 0 0 (aW false E s.heap.size)) σ 9 [(0, .ref (ea E 0)), (1, .int x1), (2, .int x2)] []) : ∀ (σ : St) (x1 : Int32) (x2 : Int32) (y0 : Int32), fX11_readAny_78 rec9 σ x1 x2 y0 = some (rr, sr) → GW false l (rmD 8) E 4 p e s m args below meth c (MQ below (QI false E rr sr s.heap.size) args s 0 0 (aW false E s.heap.size)) σ 78 [(0, .ref (ea E 0)), (1, .int x1), (2, .int x2)] [.int y0, .ref (ea E 0)] := by
  intro σ x1 x2 y0 hf H locs ls hP hS hl
  obtain ⟨hx, hb, hr, hml, hown, hts, hlocks, hK, hX, hj⟩ := id C
  unfold fX11_readAny_78 at hf
  obtain ⟨σ2, hc1, hf⟩ := cv_e hf
  refine r_cVv (n := 1) (As := [.int y0]) (rest := []) C (c_fX11_waits hj σ H.size y0 hc1) oM_0 rfl gv_RX11_247 (by decide +kernel) (rmD_le (by decide) (by decide)) rfl rfl (Nat.le_of_ble_eq_true rfl) dX11_readAny_78 hP hS hl.1 (fun H locs hP hS => ?_)
  refine lv_aload_n hx hb dX11_readAny_81 rfl (lv_at hl 0 rfl) ?_
  obtain ⟨σ4, hc3, hf⟩ := cv_e hf
  refine r_cVv (n := 0) (As := []) (rest := []) C (c_fX11_reads hj σ2 H.size hc3) oM_0 rfl gv_RX11_222 (by decide +kernel) (rmD_le (by decide) (by decide)) rfl rfl (Nat.le_of_ble_eq_true rfl) dX11_readAny_82 hP hS hl.1 (fun H locs hP hS => ?_)
  refine lv_goto (tgt := 9) hx hb dX11_readAny_85 (by decide) ?_
  exact hr9 σ4 x1 x2 hf H locs ls hP hS (lv_sub hl [0, 1, 2] rfl)
def fX11_readAny_66 (rec9 : St → Int32 → Int32 → Option (Int32 × St)) (σ : St) (x1 : Int32) (x2 : Int32) (x3 : Int32) : Option (Int32 × St) :=
(if x3 = 0 then
fX11_readAny_78 rec9 σ x1 x2 12
else
fX11_readAny_78 rec9 σ x1 x2 9)
set_option maxHeartbeats 4000000 in
theorem b_fX11_readAny_66 {E : Ev} {l : Launch} {p : Program} {e : Env} {s : State} {m : MethodId} {args : Array Value} {below : List Frame} {meth : Method} {c : Code} (C : CX false E RX11 cX11_readAny 4 (some .int) p s m args meth c) {rr : Int32} {sr : St} (rec9 : St → Int32 → Int32 → Option (Int32 × St)) (hr9 : ∀ (σ : St) (x1 : Int32) (x2 : Int32), rec9 σ x1 x2 = some (rr, sr) → GW false l (rmD 8) E 4 p e s m args below meth c (MQ below (QI false E rr sr s.heap.size) args s 0 0 (aW false E s.heap.size)) σ 9 [(0, .ref (ea E 0)), (1, .int x1), (2, .int x2)] []) : ∀ (σ : St) (x1 : Int32) (x2 : Int32) (x3 : Int32), fX11_readAny_66 rec9 σ x1 x2 x3 = some (rr, sr) → GW false l (rmD 8) E 4 p e s m args below meth c (MQ below (QI false E rr sr s.heap.size) args s 0 0 (aW false E s.heap.size)) σ 66 [(0, .ref (ea E 0)), (1, .int x1), (2, .int x2), (3, .int x3)] [] := by
  intro σ x1 x2 x3 hf H locs ls hP hS hl
  obtain ⟨hx, hb, hr, hml, hown, hts, hlocks, hK, hX, hj⟩ := id C
  unfold fX11_readAny_66 at hf
  refine lv_aload_n hx hb dX11_readAny_66 rfl (lv_at hl 0 rfl) ?_
  refine lv_iload_n hx hb dX11_readAny_67 rfl (lv_at hl 3 rfl) ?_
  refine lv_if_eq (tgt := 76) hx hb dX11_readAny_68 (by decide) (fun c1 => ?_) (fun c1 => ?_)
  · replace hf := it_t c1 hf
    refine lv_bipush (v := 12) hx hb dX11_readAny_76 (by decide) ?_
    exact b_fX11_readAny_78 C rec9 hr9 σ x1 x2 12 hf H locs ls hP hS (lv_sub hl [0, 1, 2] rfl)
  · replace hf := it_f c1 hf
    refine lv_bipush (v := 9) hx hb dX11_readAny_71 (by decide) ?_
    refine lv_goto (tgt := 78) hx hb dX11_readAny_73 (by decide) ?_
    exact b_fX11_readAny_78 C rec9 hr9 σ x1 x2 9 hf H locs ls hP hS (lv_sub hl [0, 1, 2] rfl)
def fX11_readAny_33 (rec9 : St → Int32 → Int32 → Option (Int32 × St)) (σ : St) (x1 : Int32) (x2 : Int32) (x3 : Int32) : Option (Int32 × St) :=
(if (σ 0 34) = 8 then
(cb (fX11_fails σ 3) fun r4 σ6 =>
some (r4, σ6))
else
(nmS (st_put σ 0 34 ((σ 0 34) + 1)) fun σ2 =>
(if x3 = 0 then
fX11_readAny_66 rec9 σ2 (x1 + 1) x2 x3
else
fX11_readAny_66 rec9 σ2 x1 x2 x3)))
set_option maxHeartbeats 4000000 in
theorem b_fX11_readAny_33 {E : Ev} {l : Launch} {p : Program} {e : Env} {s : State} {m : MethodId} {args : Array Value} {below : List Frame} {meth : Method} {c : Code} (C : CX false E RX11 cX11_readAny 4 (some .int) p s m args meth c) {rr : Int32} {sr : St} (rec9 : St → Int32 → Int32 → Option (Int32 × St)) (hr9 : ∀ (σ : St) (x1 : Int32) (x2 : Int32), rec9 σ x1 x2 = some (rr, sr) → GW false l (rmD 8) E 4 p e s m args below meth c (MQ below (QI false E rr sr s.heap.size) args s 0 0 (aW false E s.heap.size)) σ 9 [(0, .ref (ea E 0)), (1, .int x1), (2, .int x2)] []) : ∀ (σ : St) (x1 : Int32) (x2 : Int32) (x3 : Int32), fX11_readAny_33 rec9 σ x1 x2 x3 = some (rr, sr) → GW false l (rmD 8) E 4 p e s m args below meth c (MQ below (QI false E rr sr s.heap.size) args s 0 0 (aW false E s.heap.size)) σ 33 [(0, .ref (ea E 0)), (1, .int x1), (2, .int x2), (3, .int x3)] [] := by
  intro σ x1 x2 x3 hf H locs ls hP hS hl
  obtain ⟨hx, hb, hr, hml, hown, hts, hlocks, hK, hX, hj⟩ := id C
  unfold fX11_readAny_33 at hf
  refine lv_aload_n hx hb dX11_readAny_33 rfl (lv_at hl 0 rfl) ?_
  refine r_get (k := 34) (v := .int (σ 0 34)) C hP oM_0 rfl iX11 (by decide) wm_t1051 rfl rfl dX11_readAny_34 ?_
  refine lv_bipush (v := 8) hx hb dX11_readAny_37 (by decide) ?_
  refine lv_icmp_ne (tgt := 48) hx hb dX11_readAny_39 (by decide) (fun c1 => ?_) (fun c1 => ?_)
  · replace hf := it_f c1 hf
    refine lv_aload_n hx hb dX11_readAny_48 rfl (lv_at hl 0 rfl) ?_
    refine lv_aload_n hx hb dX11_readAny_49 rfl (lv_at hl 0 rfl) ?_
    refine r_get (k := 34) (v := .int (σ 0 34)) C hP oM_0 rfl iX11 (by decide) wm_t1051 rfl rfl dX11_readAny_50 ?_
    refine lv_iconst (v := 1) hx hb dX11_readAny_53 (by decide) ?_
    refine lv_iadd hx hb dX11_readAny_54 ?_
    refine r_put (k := 34) (x := ((σ 0 34) + 1)) C hP hS tyX11 tyX11_ok nmX11 oM_0 rfl iX11 (by decide) wm_t1051 rfl rfl sM_0_34 rfl rfl (Nat.le_of_ble_eq_true rfl) dX11_readAny_55 (fun H locs hP hS => ?_)
    obtain ⟨σ2, eσ2, hf⟩ := nmS_e hf
    rw [← eσ2] at hP
    refine lv_iload_n hx hb dX11_readAny_58 rfl (lv_at hl 3 rfl) ?_
    refine lv_if_ne (tgt := 66) hx hb dX11_readAny_59 (by decide) (fun c3 => ?_) (fun c3 => ?_)
    · replace hf := it_f c3 hf
      exact b_fX11_readAny_66 C rec9 hr9 σ2 x1 x2 x3 hf H locs ls hP hS (lv_sub hl [0, 1, 2, 3] rfl)
    · replace hf := it_t c3 hf
      refine lv_iload_n hx hb dX11_readAny_62 rfl (lv_at hl 1 rfl) ?_
      refine lv_iconst (v := 1) hx hb dX11_readAny_63 (by decide) ?_
      refine lv_iadd hx hb dX11_readAny_64 ?_
      refine lv_istore_n (lv' := [(1, .int (x1 + 1)), (0, .ref (ea E 0)), (2, .int x2), (3, .int x3)]) hx hb dX11_readAny_65 rfl hl (by decide) rfl (fun ls hl => ?_)
      exact b_fX11_readAny_66 C rec9 hr9 σ2 (x1 + 1) x2 x3 hf H locs ls hP hS (lv_sub hl [1, 0, 2, 3] rfl)
  · replace hf := it_t c1 hf
    refine lv_aload_n hx hb dX11_readAny_42 rfl (lv_at hl 0 rfl) ?_
    refine lv_iconst (v := 3) hx hb dX11_readAny_43 (by decide) ?_
    obtain ⟨r4, σ6, hc5, hf⟩ := cb_e hf
    refine r_cVi (n := 1) (As := [.int 3]) (rest := []) C (c_fX11_fails hj σ H.size 3 hc5) oM_0 rfl gv_RX11_215 (by decide +kernel) (rmD_le (by decide) (by decide)) rfl rfl (Nat.le_of_ble_eq_true rfl) dX11_readAny_44 hP hS hl.1 (fun H locs hP hS => ?_)
    cases hf
    exact r_iret C hP hS dX11_readAny_47
def fX11_readAny_9B (rec9 : St → Int32 → Int32 → Option (Int32 × St)) (σ : St) (x1 : Int32) (x2 : Int32) : Option (Int32 × St) :=
(if x2 = 0 then
(if (fX11_isWord σ 9) = 0 then
(if (fX11_isWord σ 8) = 0 then
(cv (fX11_settles σ 10) fun σ5 =>
(cv (fX11_settles σ5 11) fun σ7 =>
(if x1 = 0 then
some (0, σ7)
else
(if (fX11_isSign σ7 41) = 0 then
(cb (fX11_fails σ7 1) fun r16 σ18 =>
some (r16, σ18))
else
(nmS (st_put σ7 0 36 ((σ7 0 36) - 1)) fun σ10 =>
(nmS (st_put σ10 0 34 ((σ10 0 34) - 1)) fun σ11 =>
(cv (fX11_settles σ11 9) fun σ13 =>
(cv (fX11_reads σ13) fun σ15 =>
rec9 σ15 (x1 - 1) x2))))))))
else
(cv (fX11_settles σ 10) fun σ20 =>
(cv (fX11_settles σ20 11) fun σ22 =>
(cv (fX11_waits σ22 11) fun σ24 =>
(cv (fX11_reads σ24) fun σ26 =>
rec9 σ26 x1 1)))))
else
(cv (fX11_settles σ 10) fun σ28 =>
(cv (fX11_waits σ28 10) fun σ30 =>
(cv (fX11_reads σ30) fun σ32 =>
rec9 σ32 x1 1))))
else
(if (fX11_isWord σ 10) = 0 then
(if (fX11_isSign σ 40) = 0 then
(cb (fX11_readCompared σ) fun r35 σ37 =>
(if r35 = (-1) then
some ((-1), σ37)
else
(cv (fX11_settles σ37 9) fun σ40 =>
rec9 σ40 x1 0)))
else
fX11_readAny_33 rec9 σ x1 x2 (fX11_isWord σ 10))
else
fX11_readAny_33 rec9 σ x1 x2 (fX11_isWord σ 10)))
set_option maxHeartbeats 4000000 in
theorem b_fX11_readAny_9B {E : Ev} {l : Launch} {p : Program} {e : Env} {s : State} {m : MethodId} {args : Array Value} {below : List Frame} {meth : Method} {c : Code} (C : CX false E RX11 cX11_readAny 4 (some .int) p s m args meth c) {rr : Int32} {sr : St} (rec9 : St → Int32 → Int32 → Option (Int32 × St)) (hr9 : ∀ (σ : St) (x1 : Int32) (x2 : Int32), rec9 σ x1 x2 = some (rr, sr) → GW false l (rmD 8) E 4 p e s m args below meth c (MQ below (QI false E rr sr s.heap.size) args s 0 0 (aW false E s.heap.size)) σ 9 [(0, .ref (ea E 0)), (1, .int x1), (2, .int x2)] []) : ∀ (σ : St) (x1 : Int32) (x2 : Int32), fX11_readAny_9B rec9 σ x1 x2 = some (rr, sr) → GW false l (rmD 8) E 4 p e s m args below meth c (MQ below (QI false E rr sr s.heap.size) args s 0 0 (aW false E s.heap.size)) σ 9 [(0, .ref (ea E 0)), (1, .int x1), (2, .int x2)] [] := by
  intro σ x1 x2 hf H locs ls hP hS hl
  obtain ⟨hx, hb, hr, hml, hown, hts, hlocks, hK, hX, hj⟩ := id C
  unfold fX11_readAny_9B at hf
  refine lv_iload_n hx hb dX11_readAny_9 rfl (lv_at hl 2 rfl) ?_
  refine lv_if_eq (tgt := 109) hx hb dX11_readAny_10 (by decide) (fun c1 => ?_) (fun c1 => ?_)
  · replace hf := it_t c1 hf
    refine lv_aload_n hx hb dX11_readAny_109 rfl (lv_at hl 0 rfl) ?_
    refine lv_bipush (v := 9) hx hb dX11_readAny_110 (by decide) ?_
    refine r_cVi (n := 1) (As := [.int 9]) (rest := []) C (c_fX11_isWord hj σ H.size 9) oM_0 rfl gv_RX11_244 (by decide +kernel) (rmD_le (by decide) (by decide)) rfl rfl (Nat.le_of_ble_eq_true rfl) dX11_readAny_112 hP hS hl.1 (fun H locs hP hS => ?_)
    refine lv_if_eq (tgt := 139) hx hb dX11_readAny_115 (by decide) (fun c2 => ?_) (fun c2 => ?_)
    · replace hf := it_t c2 hf
      refine lv_aload_n hx hb dX11_readAny_139 rfl (lv_at hl 0 rfl) ?_
      refine lv_bipush (v := 8) hx hb dX11_readAny_140 (by decide) ?_
      refine r_cVi (n := 1) (As := [.int 8]) (rest := []) C (c_fX11_isWord hj σ H.size 8) oM_0 rfl gv_RX11_244 (by decide +kernel) (rmD_le (by decide) (by decide)) rfl rfl (Nat.le_of_ble_eq_true rfl) dX11_readAny_142 hP hS hl.1 (fun H locs hP hS => ?_)
      refine lv_if_eq (tgt := 175) hx hb dX11_readAny_145 (by decide) (fun c3 => ?_) (fun c3 => ?_)
      · replace hf := it_t c3 hf
        refine lv_aload_n hx hb dX11_readAny_175 rfl (lv_at hl 0 rfl) ?_
        refine lv_bipush (v := 10) hx hb dX11_readAny_176 (by decide) ?_
        obtain ⟨σ5, hc4, hf⟩ := cv_e hf
        refine r_cVv (n := 1) (As := [.int 10]) (rest := []) C (c_fX11_settles hj σ H.size 10 hc4) oM_0 rfl gv_RX11_253 (by decide +kernel) (rmD_le (by decide) (by decide)) rfl rfl (Nat.le_of_ble_eq_true rfl) dX11_readAny_178 hP hS hl.1 (fun H locs hP hS => ?_)
        refine lv_aload_n hx hb dX11_readAny_181 rfl (lv_at hl 0 rfl) ?_
        refine lv_bipush (v := 11) hx hb dX11_readAny_182 (by decide) ?_
        obtain ⟨σ7, hc6, hf⟩ := cv_e hf
        refine r_cVv (n := 1) (As := [.int 11]) (rest := []) C (c_fX11_settles hj σ5 H.size 11 hc6) oM_0 rfl gv_RX11_253 (by decide +kernel) (rmD_le (by decide) (by decide)) rfl rfl (Nat.le_of_ble_eq_true rfl) dX11_readAny_184 hP hS hl.1 (fun H locs hP hS => ?_)
        refine lv_iload_n hx hb dX11_readAny_187 rfl (lv_at hl 1 rfl) ?_
        refine lv_if_ne (tgt := 193) hx hb dX11_readAny_188 (by decide) (fun c8 => ?_) (fun c8 => ?_)
        · replace hf := it_f c8 hf
          refine lv_aload_n hx hb dX11_readAny_193 rfl (lv_at hl 0 rfl) ?_
          refine lv_bipush (v := 41) hx hb dX11_readAny_194 (by decide) ?_
          refine r_cVi (n := 1) (As := [.int 41]) (rest := []) C (c_fX11_isSign hj σ7 H.size 41) oM_0 rfl gv_RX11_229 (by decide +kernel) (rmD_le (by decide) (by decide)) rfl rfl (Nat.le_of_ble_eq_true rfl) dX11_readAny_196 hP hS hl.1 (fun H locs hP hS => ?_)
          refine lv_if_ne (tgt := 208) hx hb dX11_readAny_199 (by decide) (fun c9 => ?_) (fun c9 => ?_)
          · replace hf := it_f c9 hf
            refine lv_aload_n hx hb dX11_readAny_208 rfl (lv_at hl 0 rfl) ?_
            refine lv_aload_n hx hb dX11_readAny_209 rfl (lv_at hl 0 rfl) ?_
            refine r_get (k := 36) (v := .int (σ7 0 36)) C hP oM_0 rfl iX11 (by decide) wm_t1053 rfl rfl dX11_readAny_210 ?_
            refine lv_iconst (v := 1) hx hb dX11_readAny_213 (by decide) ?_
            refine lv_isub hx hb dX11_readAny_214 ?_
            refine r_put (k := 36) (x := ((σ7 0 36) - 1)) C hP hS tyX11 tyX11_ok nmX11 oM_0 rfl iX11 (by decide) wm_t1053 rfl rfl sM_0_36 rfl rfl (Nat.le_of_ble_eq_true rfl) dX11_readAny_215 (fun H locs hP hS => ?_)
            obtain ⟨σ10, eσ10, hf⟩ := nmS_e hf
            rw [← eσ10] at hP
            refine lv_iload_n hx hb dX11_readAny_218 rfl (lv_at hl 1 rfl) ?_
            refine lv_iconst (v := 1) hx hb dX11_readAny_219 (by decide) ?_
            refine lv_isub hx hb dX11_readAny_220 ?_
            refine lv_istore_n (lv' := [(1, .int (x1 - 1)), (0, .ref (ea E 0)), (2, .int x2)]) hx hb dX11_readAny_221 rfl hl (by decide) rfl (fun ls hl => ?_)
            refine lv_aload_n hx hb dX11_readAny_222 rfl (lv_at hl 1 rfl) ?_
            refine lv_aload_n hx hb dX11_readAny_223 rfl (lv_at hl 1 rfl) ?_
            refine r_get (k := 34) (v := .int (σ10 0 34)) C hP oM_0 rfl iX11 (by decide) wm_t1051 rfl rfl dX11_readAny_224 ?_
            refine lv_iconst (v := 1) hx hb dX11_readAny_227 (by decide) ?_
            refine lv_isub hx hb dX11_readAny_228 ?_
            refine r_put (k := 34) (x := ((σ10 0 34) - 1)) C hP hS tyX11 tyX11_ok nmX11 oM_0 rfl iX11 (by decide) wm_t1051 rfl rfl sM_0_34 rfl rfl (Nat.le_of_ble_eq_true rfl) dX11_readAny_229 (fun H locs hP hS => ?_)
            obtain ⟨σ11, eσ11, hf⟩ := nmS_e hf
            rw [← eσ11] at hP
            refine lv_aload_n hx hb dX11_readAny_232 rfl (lv_at hl 1 rfl) ?_
            refine lv_bipush (v := 9) hx hb dX11_readAny_233 (by decide) ?_
            obtain ⟨σ13, hc12, hf⟩ := cv_e hf
            refine r_cVv (n := 1) (As := [.int 9]) (rest := []) C (c_fX11_settles hj σ11 H.size 9 hc12) oM_0 rfl gv_RX11_253 (by decide +kernel) (rmD_le (by decide) (by decide)) rfl rfl (Nat.le_of_ble_eq_true rfl) dX11_readAny_235 hP hS hl.1 (fun H locs hP hS => ?_)
            refine lv_aload_n hx hb dX11_readAny_238 rfl (lv_at hl 1 rfl) ?_
            obtain ⟨σ15, hc14, hf⟩ := cv_e hf
            refine r_cVv (n := 0) (As := []) (rest := []) C (c_fX11_reads hj σ13 H.size hc14) oM_0 rfl gv_RX11_222 (by decide +kernel) (rmD_le (by decide) (by decide)) rfl rfl (Nat.le_of_ble_eq_true rfl) dX11_readAny_239 hP hS hl.1 (fun H locs hP hS => ?_)
            refine lv_goto (tgt := 9) hx hb dX11_readAny_242 (by decide) ?_
            exact hr9 σ15 (x1 - 1) x2 hf H locs ls hP hS (lv_sub hl [1, 0, 2] rfl)
          · replace hf := it_t c9 hf
            refine lv_aload_n hx hb dX11_readAny_202 rfl (lv_at hl 0 rfl) ?_
            refine lv_iconst (v := 1) hx hb dX11_readAny_203 (by decide) ?_
            obtain ⟨r16, σ18, hc17, hf⟩ := cb_e hf
            refine r_cVi (n := 1) (As := [.int 1]) (rest := []) C (c_fX11_fails hj σ7 H.size 1 hc17) oM_0 rfl gv_RX11_215 (by decide +kernel) (rmD_le (by decide) (by decide)) rfl rfl (Nat.le_of_ble_eq_true rfl) dX11_readAny_204 hP hS hl.1 (fun H locs hP hS => ?_)
            cases hf
            exact r_iret C hP hS dX11_readAny_207
        · replace hf := it_t c8 hf
          refine lv_iconst (v := 0) hx hb dX11_readAny_191 (by decide) ?_
          cases hf
          exact r_iret C hP hS dX11_readAny_192
      · replace hf := it_f c3 hf
        refine lv_aload_n hx hb dX11_readAny_148 rfl (lv_at hl 0 rfl) ?_
        refine lv_bipush (v := 10) hx hb dX11_readAny_149 (by decide) ?_
        obtain ⟨σ20, hc19, hf⟩ := cv_e hf
        refine r_cVv (n := 1) (As := [.int 10]) (rest := []) C (c_fX11_settles hj σ H.size 10 hc19) oM_0 rfl gv_RX11_253 (by decide +kernel) (rmD_le (by decide) (by decide)) rfl rfl (Nat.le_of_ble_eq_true rfl) dX11_readAny_151 hP hS hl.1 (fun H locs hP hS => ?_)
        refine lv_aload_n hx hb dX11_readAny_154 rfl (lv_at hl 0 rfl) ?_
        refine lv_bipush (v := 11) hx hb dX11_readAny_155 (by decide) ?_
        obtain ⟨σ22, hc21, hf⟩ := cv_e hf
        refine r_cVv (n := 1) (As := [.int 11]) (rest := []) C (c_fX11_settles hj σ20 H.size 11 hc21) oM_0 rfl gv_RX11_253 (by decide +kernel) (rmD_le (by decide) (by decide)) rfl rfl (Nat.le_of_ble_eq_true rfl) dX11_readAny_157 hP hS hl.1 (fun H locs hP hS => ?_)
        refine lv_aload_n hx hb dX11_readAny_160 rfl (lv_at hl 0 rfl) ?_
        refine lv_bipush (v := 11) hx hb dX11_readAny_161 (by decide) ?_
        obtain ⟨σ24, hc23, hf⟩ := cv_e hf
        refine r_cVv (n := 1) (As := [.int 11]) (rest := []) C (c_fX11_waits hj σ22 H.size 11 hc23) oM_0 rfl gv_RX11_247 (by decide +kernel) (rmD_le (by decide) (by decide)) rfl rfl (Nat.le_of_ble_eq_true rfl) dX11_readAny_163 hP hS hl.1 (fun H locs hP hS => ?_)
        refine lv_aload_n hx hb dX11_readAny_166 rfl (lv_at hl 0 rfl) ?_
        obtain ⟨σ26, hc25, hf⟩ := cv_e hf
        refine r_cVv (n := 0) (As := []) (rest := []) C (c_fX11_reads hj σ24 H.size hc25) oM_0 rfl gv_RX11_222 (by decide +kernel) (rmD_le (by decide) (by decide)) rfl rfl (Nat.le_of_ble_eq_true rfl) dX11_readAny_167 hP hS hl.1 (fun H locs hP hS => ?_)
        refine lv_iconst (v := 1) hx hb dX11_readAny_170 (by decide) ?_
        refine lv_istore_n (lv' := [(2, .int 1), (0, .ref (ea E 0)), (1, .int x1)]) hx hb dX11_readAny_171 rfl hl (by decide) rfl (fun ls hl => ?_)
        refine lv_goto (tgt := 9) hx hb dX11_readAny_172 (by decide) ?_
        exact hr9 σ26 x1 1 hf H locs ls hP hS (lv_sub hl [1, 2, 0] rfl)
    · replace hf := it_f c2 hf
      refine lv_aload_n hx hb dX11_readAny_118 rfl (lv_at hl 0 rfl) ?_
      refine lv_bipush (v := 10) hx hb dX11_readAny_119 (by decide) ?_
      obtain ⟨σ28, hc27, hf⟩ := cv_e hf
      refine r_cVv (n := 1) (As := [.int 10]) (rest := []) C (c_fX11_settles hj σ H.size 10 hc27) oM_0 rfl gv_RX11_253 (by decide +kernel) (rmD_le (by decide) (by decide)) rfl rfl (Nat.le_of_ble_eq_true rfl) dX11_readAny_121 hP hS hl.1 (fun H locs hP hS => ?_)
      refine lv_aload_n hx hb dX11_readAny_124 rfl (lv_at hl 0 rfl) ?_
      refine lv_bipush (v := 10) hx hb dX11_readAny_125 (by decide) ?_
      obtain ⟨σ30, hc29, hf⟩ := cv_e hf
      refine r_cVv (n := 1) (As := [.int 10]) (rest := []) C (c_fX11_waits hj σ28 H.size 10 hc29) oM_0 rfl gv_RX11_247 (by decide +kernel) (rmD_le (by decide) (by decide)) rfl rfl (Nat.le_of_ble_eq_true rfl) dX11_readAny_127 hP hS hl.1 (fun H locs hP hS => ?_)
      refine lv_aload_n hx hb dX11_readAny_130 rfl (lv_at hl 0 rfl) ?_
      obtain ⟨σ32, hc31, hf⟩ := cv_e hf
      refine r_cVv (n := 0) (As := []) (rest := []) C (c_fX11_reads hj σ30 H.size hc31) oM_0 rfl gv_RX11_222 (by decide +kernel) (rmD_le (by decide) (by decide)) rfl rfl (Nat.le_of_ble_eq_true rfl) dX11_readAny_131 hP hS hl.1 (fun H locs hP hS => ?_)
      refine lv_iconst (v := 1) hx hb dX11_readAny_134 (by decide) ?_
      refine lv_istore_n (lv' := [(2, .int 1), (0, .ref (ea E 0)), (1, .int x1)]) hx hb dX11_readAny_135 rfl hl (by decide) rfl (fun ls hl => ?_)
      refine lv_goto (tgt := 9) hx hb dX11_readAny_136 (by decide) ?_
      exact hr9 σ32 x1 1 hf H locs ls hP hS (lv_sub hl [1, 2, 0] rfl)
  · replace hf := it_f c1 hf
    refine lv_aload_n hx hb dX11_readAny_13 rfl (lv_at hl 0 rfl) ?_
    refine lv_bipush (v := 10) hx hb dX11_readAny_14 (by decide) ?_
    refine r_cVi (n := 1) (As := [.int 10]) (rest := []) C (c_fX11_isWord hj σ H.size 10) oM_0 rfl gv_RX11_244 (by decide +kernel) (rmD_le (by decide) (by decide)) rfl rfl (Nat.le_of_ble_eq_true rfl) dX11_readAny_16 hP hS hl.1 (fun H locs hP hS => ?_)
    refine lv_istore_n (lv' := [(3, .int (fX11_isWord σ 10)), (0, .ref (ea E 0)), (1, .int x1), (2, .int x2)]) hx hb dX11_readAny_19 rfl hl (by decide) rfl (fun ls hl => ?_)
    refine lv_iload_n hx hb dX11_readAny_20 rfl (lv_at hl 0 rfl) ?_
    refine lv_if_ne (tgt := 33) hx hb dX11_readAny_21 (by decide) (fun c33 => ?_) (fun c33 => ?_)
    · replace hf := it_f c33 hf
      exact b_fX11_readAny_33 C rec9 hr9 σ x1 x2 (fX11_isWord σ 10) hf H locs ls hP hS (lv_sub hl [1, 2, 3, 0] rfl)
    · replace hf := it_t c33 hf
      refine lv_aload_n hx hb dX11_readAny_24 rfl (lv_at hl 1 rfl) ?_
      refine lv_bipush (v := 40) hx hb dX11_readAny_25 (by decide) ?_
      refine r_cVi (n := 1) (As := [.int 40]) (rest := []) C (c_fX11_isSign hj σ H.size 40) oM_0 rfl gv_RX11_229 (by decide +kernel) (rmD_le (by decide) (by decide)) rfl rfl (Nat.le_of_ble_eq_true rfl) dX11_readAny_27 hP hS hl.1 (fun H locs hP hS => ?_)
      refine lv_if_eq (tgt := 88) hx hb dX11_readAny_30 (by decide) (fun c34 => ?_) (fun c34 => ?_)
      · replace hf := it_t c34 hf
        refine lv_aload_n hx hb dX11_readAny_88 rfl (lv_at hl 1 rfl) ?_
        obtain ⟨r35, σ37, hc36, hf⟩ := cb_e hf
        refine r_cVi (n := 0) (As := []) (rest := []) C (c_fX11_readCompared hj σ H.size hc36) oM_0 rfl gv_RX11_250 (by decide +kernel) (rmD_le (by decide) (by decide)) rfl rfl (Nat.le_of_ble_eq_true rfl) dX11_readAny_89 hP hS hl.1 (fun H locs hP hS => ?_)
        refine lv_iconst (v := (-1)) hx hb dX11_readAny_92 (by decide) ?_
        refine lv_icmp_ne (tgt := 98) hx hb dX11_readAny_93 (by decide) (fun c38 => ?_) (fun c38 => ?_)
        · replace hf := it_f c38 hf
          refine lv_aload_n hx hb dX11_readAny_98 rfl (lv_at hl 1 rfl) ?_
          refine lv_bipush (v := 9) hx hb dX11_readAny_99 (by decide) ?_
          obtain ⟨σ40, hc39, hf⟩ := cv_e hf
          refine r_cVv (n := 1) (As := [.int 9]) (rest := []) C (c_fX11_settles hj σ37 H.size 9 hc39) oM_0 rfl gv_RX11_253 (by decide +kernel) (rmD_le (by decide) (by decide)) rfl rfl (Nat.le_of_ble_eq_true rfl) dX11_readAny_101 hP hS hl.1 (fun H locs hP hS => ?_)
          refine lv_iconst (v := 0) hx hb dX11_readAny_104 (by decide) ?_
          refine lv_istore_n (lv' := [(2, .int 0), (3, .int (fX11_isWord σ 10)), (0, .ref (ea E 0)), (1, .int x1)]) hx hb dX11_readAny_105 rfl hl (by decide) rfl (fun ls hl => ?_)
          refine lv_goto (tgt := 9) hx hb dX11_readAny_106 (by decide) ?_
          exact hr9 σ40 x1 0 hf H locs ls hP hS (lv_sub hl [2, 3, 0] rfl)
        · replace hf := it_t c38 hf
          refine lv_iconst (v := (-1)) hx hb dX11_readAny_96 (by decide) ?_
          cases hf
          exact r_iret C hP hS dX11_readAny_97
      · replace hf := it_f c34 hf
        exact b_fX11_readAny_33 C rec9 hr9 σ x1 x2 (fX11_isWord σ 10) hf H locs ls hP hS (lv_sub hl [1, 2, 3, 0] rfl)
def fX11_readAny_9 : Nat → St → Int32 → Int32 → Option (Int32 × St)
  | 0 => fun _ _ _ => none
  | n + 1 => fun σ x1 x2 => fX11_readAny_9B (fX11_readAny_9 n) σ x1 x2
theorem b_fX11_readAny_9 {E : Ev} {l : Launch} {p : Program} {e : Env} {s : State} {m : MethodId} {args : Array Value} {below : List Frame} {meth : Method} {c : Code} (C : CX false E RX11 cX11_readAny 4 (some .int) p s m args meth c) {rr : Int32} {sr : St} : ∀ (n : Nat) (σ : St) (x1 : Int32) (x2 : Int32), fX11_readAny_9 n σ x1 x2 = some (rr, sr) → GW false l (rmD 8) E 4 p e s m args below meth c (MQ below (QI false E rr sr s.heap.size) args s 0 0 (aW false E s.heap.size)) σ 9 [(0, .ref (ea E 0)), (1, .int x1), (2, .int x2)] [] := by
  intro n
  induction n with
  | zero => intro σ x1 x2 hf; have hf : (none : Option _) = some _ := hf; cases hf
  | succ n ih => intro σ x1 x2 hf; exact b_fX11_readAny_9B C (fX11_readAny_9 n) ih σ x1 x2 hf
def fX11_readAny (σ : St) : Option (Int32 × St) :=
(nmS (st_put σ 0 36 0) fun σ1 =>
fX11_readAny_9 FU σ1 0 1)
set_option maxHeartbeats 4000000 in
theorem c_fX11_readAny {E : Ev} {l : Launch} (hj : jW false E) (σ : St) (sz : Nat) {rr : Int32} {sr : St} (hf : fX11_readAny σ = some (rr, sr)) : Met l yX11_readAny (Cond.code yX11_readAny cX11_readAny 4 (some .int) :: gT) (rmD 8) (va_Pc [.ref (ea E 0)] (preW false E σ sz)) (QI false E rr sr sz) 0 0 (aW false E sz) := by
  refine r_entry (QI false E rr sr) hj (by decide) [.ref (ea E 0)] (Nat.le_of_ble_eq_true rfl) (fun p e s m args below meth c C => ?_)
  intro H locs ls hP hS hl
  have hl : lv_has ls 4 [(0, .ref (ea E 0))] := hl
  obtain ⟨hx, hb, hr, hml, hown, hts, hlocks, hK, hX, hj⟩ := id C
  unfold fX11_readAny at hf
  refine lv_iconst (v := 0) hx hb dX11_readAny_0 (by decide) ?_
  refine lv_istore_n (lv' := [(1, .int 0), (0, .ref (ea E 0))]) hx hb dX11_readAny_1 rfl hl (by decide) rfl (fun ls hl => ?_)
  refine lv_aload_n hx hb dX11_readAny_2 rfl (lv_at hl 1 rfl) ?_
  refine lv_iconst (v := 0) hx hb dX11_readAny_3 (by decide) ?_
  refine r_put (k := 36) (x := 0) C hP hS tyX11 tyX11_ok nmX11 oM_0 rfl iX11 (by decide) wm_t1053 rfl rfl sM_0_36 rfl rfl (Nat.le_of_ble_eq_true rfl) dX11_readAny_4 (fun H locs hP hS => ?_)
  obtain ⟨σ1, eσ1, hf⟩ := nmS_e hf
  rw [← eσ1] at hP
  refine lv_iconst (v := 1) hx hb dX11_readAny_7 (by decide) ?_
  refine lv_istore_n (lv' := [(2, .int 1), (1, .int 0), (0, .ref (ea E 0))]) hx hb dX11_readAny_8 rfl hl (by decide) rfl (fun ls hl => ?_)
  exact b_fX11_readAny_9 C FU σ1 0 1 hf H locs ls hP hS (lv_sub hl [2, 1, 0] rfl)
def fX11_readWho (σ : St) (a0 : Int32) : Option (Int32 × St) :=
(if (σ 0 21) = 3 then
(if (σ 0 22) ≤ 3 then
(wrK 48 σ 17 a0 (σ 0 22) fun σ3 =>
(cv (fX11_reads σ3) fun σ6 =>
(if (fX11_isWord σ6 7) = 0 then
(cb (fX11_fails σ6 1) fun r8 σ10 =>
some (r8, σ10))
else
some (0, σ6))))
else
(cb (fX11_fails σ 2) fun r11 σ13 =>
some (r11, σ13)))
else
(cb (fX11_fails σ 1) fun r14 σ16 =>
some (r14, σ16)))
set_option maxHeartbeats 4000000 in
theorem c_fX11_readWho {E : Ev} {l : Launch} (hj : jW false E) (σ : St) (sz : Nat) (a0 : Int32) {rr : Int32} {sr : St} (hf : fX11_readWho σ a0 = some (rr, sr)) : Met l yX11_readWho (Cond.code yX11_readWho cX11_readWho 2 (some .int) :: gT) (rmD 4) (va_Pc [.ref (ea E 0), .int a0] (preW false E σ sz)) (QI false E rr sr sz) 0 0 (aW false E sz) := by
  refine r_entry (QI false E rr sr) hj (by decide) [.ref (ea E 0), .int a0] (Nat.le_of_ble_eq_true rfl) (fun p e s m args below meth c C => ?_)
  intro H locs ls hP hS hl
  have hl : lv_has ls 2 [(0, .ref (ea E 0)), (1, .int a0)] := hl
  obtain ⟨hx, hb, hr, hml, hown, hts, hlocks, hK, hX, hj⟩ := id C
  unfold fX11_readWho at hf
  refine lv_aload_n hx hb dX11_readWho_0 rfl (lv_at hl 0 rfl) ?_
  refine r_get (k := 21) (v := .int (σ 0 21)) C hP oM_0 rfl iX11 (by decide) wm_t1038 rfl rfl dX11_readWho_1 ?_
  refine lv_iconst (v := 3) hx hb dX11_readWho_4 (by decide) ?_
  refine lv_icmp_eq (tgt := 14) hx hb dX11_readWho_5 (by decide) (fun c1 => ?_) (fun c1 => ?_)
  · replace hf := it_t c1 hf
    refine lv_aload_n hx hb dX11_readWho_14 rfl (lv_at hl 0 rfl) ?_
    refine r_get (k := 22) (v := .int (σ 0 22)) C hP oM_0 rfl iX11 (by decide) wm_t1039 rfl rfl dX11_readWho_15 ?_
    refine lv_iconst (v := 3) hx hb dX11_readWho_18 (by decide) ?_
    refine lv_icmp_le (tgt := 28) hx hb dX11_readWho_19 (by decide) (fun c2 => ?_) (fun c2 => ?_)
    · replace hf := it_t c2 hf
      refine lv_aload_n hx hb dX11_readWho_28 rfl (lv_at hl 0 rfl) ?_
      refine r_get (k := 26) (v := .ref (ea E 17)) C hP oM_0 rfl iX11 (by decide) wm_t1043 rfl rfl dX11_readWho_29 ?_
      refine lv_iload_n hx hb dX11_readWho_32 rfl (lv_at hl 1 rfl) ?_
      refine lv_aload_n hx hb dX11_readWho_33 rfl (lv_at hl 0 rfl) ?_
      refine r_get (k := 22) (v := .int (σ 0 22)) C hP oM_0 rfl iX11 (by decide) wm_t1039 rfl rfl dX11_readWho_34 ?_
      obtain ⟨h4, σ3, eσ3, hf⟩ := wrK_e hf
      refine r_ast C hP hS aM_17 h4 dX11_readWho_37 (fun H locs hP hS => ?_)
      rw [← eσ3] at hP
      refine lv_aload_n hx hb dX11_readWho_38 rfl (lv_at hl 0 rfl) ?_
      obtain ⟨σ6, hc5, hf⟩ := cv_e hf
      refine r_cVv (n := 0) (As := []) (rest := []) C (c_fX11_reads hj σ3 H.size hc5) oM_0 rfl gv_RX11_222 (by decide +kernel) (rmD_le (by decide) (by decide)) rfl rfl (Nat.le_of_ble_eq_true rfl) dX11_readWho_39 hP hS hl.1 (fun H locs hP hS => ?_)
      refine lv_aload_n hx hb dX11_readWho_42 rfl (lv_at hl 0 rfl) ?_
      refine lv_bipush (v := 7) hx hb dX11_readWho_43 (by decide) ?_
      refine r_cVi (n := 1) (As := [.int 7]) (rest := []) C (c_fX11_isWord hj σ6 H.size 7) oM_0 rfl gv_RX11_244 (by decide +kernel) (rmD_le (by decide) (by decide)) rfl rfl (Nat.le_of_ble_eq_true rfl) dX11_readWho_45 hP hS hl.1 (fun H locs hP hS => ?_)
      refine lv_if_eq (tgt := 55) hx hb dX11_readWho_48 (by decide) (fun c7 => ?_) (fun c7 => ?_)
      · replace hf := it_t c7 hf
        refine lv_aload_n hx hb dX11_readWho_55 rfl (lv_at hl 0 rfl) ?_
        refine lv_iconst (v := 1) hx hb dX11_readWho_56 (by decide) ?_
        obtain ⟨r8, σ10, hc9, hf⟩ := cb_e hf
        refine r_cVi (n := 1) (As := [.int 1]) (rest := []) C (c_fX11_fails hj σ6 H.size 1 hc9) oM_0 rfl gv_RX11_215 (by decide +kernel) (rmD_le (by decide) (by decide)) rfl rfl (Nat.le_of_ble_eq_true rfl) dX11_readWho_57 hP hS hl.1 (fun H locs hP hS => ?_)
        cases hf
        exact r_iret C hP hS dX11_readWho_60
      · replace hf := it_f c7 hf
        refine lv_iconst (v := 0) hx hb dX11_readWho_51 (by decide) ?_
        refine lv_goto (tgt := 60) hx hb dX11_readWho_52 (by decide) ?_
        cases hf
        exact r_iret C hP hS dX11_readWho_60
    · replace hf := it_f c2 hf
      refine lv_aload_n hx hb dX11_readWho_22 rfl (lv_at hl 0 rfl) ?_
      refine lv_iconst (v := 2) hx hb dX11_readWho_23 (by decide) ?_
      obtain ⟨r11, σ13, hc12, hf⟩ := cb_e hf
      refine r_cVi (n := 1) (As := [.int 2]) (rest := []) C (c_fX11_fails hj σ H.size 2 hc12) oM_0 rfl gv_RX11_215 (by decide +kernel) (rmD_le (by decide) (by decide)) rfl rfl (Nat.le_of_ble_eq_true rfl) dX11_readWho_24 hP hS hl.1 (fun H locs hP hS => ?_)
      cases hf
      exact r_iret C hP hS dX11_readWho_27
  · replace hf := it_f c1 hf
    refine lv_aload_n hx hb dX11_readWho_8 rfl (lv_at hl 0 rfl) ?_
    refine lv_iconst (v := 1) hx hb dX11_readWho_9 (by decide) ?_
    obtain ⟨r14, σ16, hc15, hf⟩ := cb_e hf
    refine r_cVi (n := 1) (As := [.int 1]) (rest := []) C (c_fX11_fails hj σ H.size 1 hc15) oM_0 rfl gv_RX11_215 (by decide +kernel) (rmD_le (by decide) (by decide)) rfl rfl (Nat.le_of_ble_eq_true rfl) dX11_readWho_10 hP hS hl.1 (fun H locs hP hS => ?_)
    cases hf
    exact r_iret C hP hS dX11_readWho_13
def fX11_readLine_82 (σ : St) (x1 : Int32) : Option (Int32 × St) :=
(wrK 48 σ 20 x1 (σ 0 33) fun σ1 =>
(if (fX11_isSign σ1 59) = 0 then
(cb (fX11_fails σ1 1) fun r6 σ8 =>
some (r6, σ8))
else
(cv (fX11_reads σ1) fun σ5 =>
some (0, σ5))))
set_option maxHeartbeats 4000000 in
theorem b_fX11_readLine_82 {E : Ev} {l : Launch} {p : Program} {e : Env} {s : State} {m : MethodId} {args : Array Value} {below : List Frame} {meth : Method} {c : Code} (C : CX false E RX11 cX11_readLine 2 (some .int) p s m args meth c) {rr : Int32} {sr : St} : ∀ (σ : St) (x1 : Int32), fX11_readLine_82 σ x1 = some (rr, sr) → GW false l (rmD 9) E 2 p e s m args below meth c (MQ below (QI false E rr sr s.heap.size) args s 0 0 (aW false E s.heap.size)) σ 82 [(0, .ref (ea E 0)), (1, .int x1)] [] := by
  intro σ x1 hf H locs ls hP hS hl
  obtain ⟨hx, hb, hr, hml, hown, hts, hlocks, hK, hX, hj⟩ := id C
  unfold fX11_readLine_82 at hf
  refine lv_aload_n hx hb dX11_readLine_82 rfl (lv_at hl 0 rfl) ?_
  refine r_get (k := 29) (v := .ref (ea E 20)) C hP oM_0 rfl iX11 (by decide) wm_t1046 rfl rfl dX11_readLine_83 ?_
  refine lv_iload_n hx hb dX11_readLine_86 rfl (lv_at hl 1 rfl) ?_
  refine lv_aload_n hx hb dX11_readLine_87 rfl (lv_at hl 0 rfl) ?_
  refine r_get (k := 33) (v := .int (σ 0 33)) C hP oM_0 rfl iX11 (by decide) wm_t1050 rfl rfl dX11_readLine_88 ?_
  obtain ⟨h2, σ1, eσ1, hf⟩ := wrK_e hf
  refine r_ast C hP hS aM_20 h2 dX11_readLine_91 (fun H locs hP hS => ?_)
  rw [← eσ1] at hP
  refine lv_aload_n hx hb dX11_readLine_92 rfl (lv_at hl 0 rfl) ?_
  refine lv_bipush (v := 59) hx hb dX11_readLine_93 (by decide) ?_
  refine r_cVi (n := 1) (As := [.int 59]) (rest := []) C (c_fX11_isSign hj σ1 H.size 59) oM_0 rfl gv_RX11_229 (by decide +kernel) (rmD_le (by decide) (by decide)) rfl rfl (Nat.le_of_ble_eq_true rfl) dX11_readLine_95 hP hS hl.1 (fun H locs hP hS => ?_)
  refine lv_if_ne (tgt := 107) hx hb dX11_readLine_98 (by decide) (fun c3 => ?_) (fun c3 => ?_)
  · replace hf := it_f c3 hf
    refine lv_aload_n hx hb dX11_readLine_107 rfl (lv_at hl 0 rfl) ?_
    obtain ⟨σ5, hc4, hf⟩ := cv_e hf
    refine r_cVv (n := 0) (As := []) (rest := []) C (c_fX11_reads hj σ1 H.size hc4) oM_0 rfl gv_RX11_222 (by decide +kernel) (rmD_le (by decide) (by decide)) rfl rfl (Nat.le_of_ble_eq_true rfl) dX11_readLine_108 hP hS hl.1 (fun H locs hP hS => ?_)
    refine lv_iconst (v := 0) hx hb dX11_readLine_111 (by decide) ?_
    cases hf
    exact r_iret C hP hS dX11_readLine_112
  · replace hf := it_t c3 hf
    refine lv_aload_n hx hb dX11_readLine_101 rfl (lv_at hl 0 rfl) ?_
    refine lv_iconst (v := 1) hx hb dX11_readLine_102 (by decide) ?_
    obtain ⟨r6, σ8, hc7, hf⟩ := cb_e hf
    refine r_cVi (n := 1) (As := [.int 1]) (rest := []) C (c_fX11_fails hj σ1 H.size 1 hc7) oM_0 rfl gv_RX11_215 (by decide +kernel) (rmD_le (by decide) (by decide)) rfl rfl (Nat.le_of_ble_eq_true rfl) dX11_readLine_103 hP hS hl.1 (fun H locs hP hS => ?_)
    cases hf
    exact r_iret C hP hS dX11_readLine_106
def fX11_readLine_43 (σ : St) (x1 : Int32) (y0 : Int32) : Option (Int32 × St) :=
(if y0 = (-1) then
some ((-1), σ)
else
(wrK 48 σ 19 x1 (σ 0 33) fun σ2 =>
(if (fX11_isWord σ2 7) = 0 then
fX11_readLine_82 σ2 x1
else
(cv (fX11_reads σ2) fun σ6 =>
(cb (fX11_readAny σ6) fun r7 σ9 =>
(if r7 = (-1) then
some ((-1), σ9)
else
fX11_readLine_82 σ9 x1))))))
set_option maxHeartbeats 4000000 in
theorem b_fX11_readLine_43 {E : Ev} {l : Launch} {p : Program} {e : Env} {s : State} {m : MethodId} {args : Array Value} {below : List Frame} {meth : Method} {c : Code} (C : CX false E RX11 cX11_readLine 2 (some .int) p s m args meth c) {rr : Int32} {sr : St} : ∀ (σ : St) (x1 : Int32) (y0 : Int32), fX11_readLine_43 σ x1 y0 = some (rr, sr) → GW false l (rmD 9) E 2 p e s m args below meth c (MQ below (QI false E rr sr s.heap.size) args s 0 0 (aW false E s.heap.size)) σ 43 [(0, .ref (ea E 0)), (1, .int x1)] [.int y0] := by
  intro σ x1 y0 hf H locs ls hP hS hl
  obtain ⟨hx, hb, hr, hml, hown, hts, hlocks, hK, hX, hj⟩ := id C
  unfold fX11_readLine_43 at hf
  refine lv_iconst (v := (-1)) hx hb dX11_readLine_43 (by decide) ?_
  refine lv_icmp_ne (tgt := 49) hx hb dX11_readLine_44 (by decide) (fun c1 => ?_) (fun c1 => ?_)
  · replace hf := it_f c1 hf
    refine lv_aload_n hx hb dX11_readLine_49 rfl (lv_at hl 0 rfl) ?_
    refine r_get (k := 28) (v := .ref (ea E 19)) C hP oM_0 rfl iX11 (by decide) wm_t1045 rfl rfl dX11_readLine_50 ?_
    refine lv_iload_n hx hb dX11_readLine_53 rfl (lv_at hl 1 rfl) ?_
    refine lv_aload_n hx hb dX11_readLine_54 rfl (lv_at hl 0 rfl) ?_
    refine r_get (k := 33) (v := .int (σ 0 33)) C hP oM_0 rfl iX11 (by decide) wm_t1050 rfl rfl dX11_readLine_55 ?_
    obtain ⟨h3, σ2, eσ2, hf⟩ := wrK_e hf
    refine r_ast C hP hS aM_19 h3 dX11_readLine_58 (fun H locs hP hS => ?_)
    rw [← eσ2] at hP
    refine lv_aload_n hx hb dX11_readLine_59 rfl (lv_at hl 0 rfl) ?_
    refine lv_bipush (v := 7) hx hb dX11_readLine_60 (by decide) ?_
    refine r_cVi (n := 1) (As := [.int 7]) (rest := []) C (c_fX11_isWord hj σ2 H.size 7) oM_0 rfl gv_RX11_244 (by decide +kernel) (rmD_le (by decide) (by decide)) rfl rfl (Nat.le_of_ble_eq_true rfl) dX11_readLine_62 hP hS hl.1 (fun H locs hP hS => ?_)
    refine lv_if_eq (tgt := 82) hx hb dX11_readLine_65 (by decide) (fun c4 => ?_) (fun c4 => ?_)
    · replace hf := it_t c4 hf
      exact b_fX11_readLine_82 C σ2 x1 hf H locs ls hP hS (lv_sub hl [0, 1] rfl)
    · replace hf := it_f c4 hf
      refine lv_aload_n hx hb dX11_readLine_68 rfl (lv_at hl 0 rfl) ?_
      obtain ⟨σ6, hc5, hf⟩ := cv_e hf
      refine r_cVv (n := 0) (As := []) (rest := []) C (c_fX11_reads hj σ2 H.size hc5) oM_0 rfl gv_RX11_222 (by decide +kernel) (rmD_le (by decide) (by decide)) rfl rfl (Nat.le_of_ble_eq_true rfl) dX11_readLine_69 hP hS hl.1 (fun H locs hP hS => ?_)
      refine lv_aload_n hx hb dX11_readLine_72 rfl (lv_at hl 0 rfl) ?_
      obtain ⟨r7, σ9, hc8, hf⟩ := cb_e hf
      refine r_cVi (n := 0) (As := []) (rest := []) C (c_fX11_readAny hj σ6 H.size hc8) oM_0 rfl gv_RX11_259 (by decide +kernel) (rmD_le (by decide) (by decide)) rfl rfl (Nat.le_of_ble_eq_true rfl) dX11_readLine_73 hP hS hl.1 (fun H locs hP hS => ?_)
      refine lv_iconst (v := (-1)) hx hb dX11_readLine_76 (by decide) ?_
      refine lv_icmp_ne (tgt := 82) hx hb dX11_readLine_77 (by decide) (fun c10 => ?_) (fun c10 => ?_)
      · replace hf := it_f c10 hf
        exact b_fX11_readLine_82 C σ9 x1 hf H locs ls hP hS (lv_sub hl [0, 1] rfl)
      · replace hf := it_t c10 hf
        refine lv_iconst (v := (-1)) hx hb dX11_readLine_80 (by decide) ?_
        cases hf
        exact r_iret C hP hS dX11_readLine_81
  · replace hf := it_t c1 hf
    refine lv_iconst (v := (-1)) hx hb dX11_readLine_47 (by decide) ?_
    cases hf
    exact r_iret C hP hS dX11_readLine_48
def fX11_readLine (σ : St) (a0 : Int32) : Option (Int32 × St) :=
(wrK 48 σ 16 a0 (σ 0 22) fun σ1 =>
(wrK 48 σ1 18 a0 (σ1 0 33) fun σ3 =>
(cv (fX11_reads σ3) fun σ6 =>
(if (σ6 0 32) = 0 then
(cb (fX11_readWho σ6 a0) fun r8 σ10 =>
fX11_readLine_43 σ10 a0 r8)
else
(cb (fX11_readSum σ6) fun r11 σ13 =>
fX11_readLine_43 σ13 a0 r11)))))
set_option maxHeartbeats 4000000 in
theorem c_fX11_readLine {E : Ev} {l : Launch} (hj : jW false E) (σ : St) (sz : Nat) (a0 : Int32) {rr : Int32} {sr : St} (hf : fX11_readLine σ a0 = some (rr, sr)) : Met l yX11_readLine (Cond.code yX11_readLine cX11_readLine 2 (some .int) :: gT) (rmD 9) (va_Pc [.ref (ea E 0), .int a0] (preW false E σ sz)) (QI false E rr sr sz) 0 0 (aW false E sz) := by
  refine r_entry (QI false E rr sr) hj (by decide) [.ref (ea E 0), .int a0] (Nat.le_of_ble_eq_true rfl) (fun p e s m args below meth c C => ?_)
  intro H locs ls hP hS hl
  have hl : lv_has ls 2 [(0, .ref (ea E 0)), (1, .int a0)] := hl
  obtain ⟨hx, hb, hr, hml, hown, hts, hlocks, hK, hX, hj⟩ := id C
  unfold fX11_readLine at hf
  refine lv_aload_n hx hb dX11_readLine_0 rfl (lv_at hl 0 rfl) ?_
  refine r_get (k := 25) (v := .ref (ea E 16)) C hP oM_0 rfl iX11 (by decide) wm_t1042 rfl rfl dX11_readLine_1 ?_
  refine lv_iload_n hx hb dX11_readLine_4 rfl (lv_at hl 1 rfl) ?_
  refine lv_aload_n hx hb dX11_readLine_5 rfl (lv_at hl 0 rfl) ?_
  refine r_get (k := 22) (v := .int (σ 0 22)) C hP oM_0 rfl iX11 (by decide) wm_t1039 rfl rfl dX11_readLine_6 ?_
  obtain ⟨h2, σ1, eσ1, hf⟩ := wrK_e hf
  refine r_ast C hP hS aM_16 h2 dX11_readLine_9 (fun H locs hP hS => ?_)
  rw [← eσ1] at hP
  refine lv_aload_n hx hb dX11_readLine_10 rfl (lv_at hl 0 rfl) ?_
  refine r_get (k := 27) (v := .ref (ea E 18)) C hP oM_0 rfl iX11 (by decide) wm_t1044 rfl rfl dX11_readLine_11 ?_
  refine lv_iload_n hx hb dX11_readLine_14 rfl (lv_at hl 1 rfl) ?_
  refine lv_aload_n hx hb dX11_readLine_15 rfl (lv_at hl 0 rfl) ?_
  refine r_get (k := 33) (v := .int (σ1 0 33)) C hP oM_0 rfl iX11 (by decide) wm_t1050 rfl rfl dX11_readLine_16 ?_
  obtain ⟨h4, σ3, eσ3, hf⟩ := wrK_e hf
  refine r_ast C hP hS aM_18 h4 dX11_readLine_19 (fun H locs hP hS => ?_)
  rw [← eσ3] at hP
  refine lv_aload_n hx hb dX11_readLine_20 rfl (lv_at hl 0 rfl) ?_
  obtain ⟨σ6, hc5, hf⟩ := cv_e hf
  refine r_cVv (n := 0) (As := []) (rest := []) C (c_fX11_reads hj σ3 H.size hc5) oM_0 rfl gv_RX11_222 (by decide +kernel) (rmD_le (by decide) (by decide)) rfl rfl (Nat.le_of_ble_eq_true rfl) dX11_readLine_21 hP hS hl.1 (fun H locs hP hS => ?_)
  refine lv_aload_n hx hb dX11_readLine_24 rfl (lv_at hl 0 rfl) ?_
  refine r_get (k := 32) (v := .int (σ6 0 32)) C hP oM_0 rfl iX11 (by decide) wm_t1049 rfl rfl dX11_readLine_25 ?_
  refine lv_if_eq (tgt := 38) hx hb dX11_readLine_28 (by decide) (fun c7 => ?_) (fun c7 => ?_)
  · replace hf := it_t c7 hf
    refine lv_aload_n hx hb dX11_readLine_38 rfl (lv_at hl 0 rfl) ?_
    refine lv_iload_n hx hb dX11_readLine_39 rfl (lv_at hl 1 rfl) ?_
    obtain ⟨r8, σ10, hc9, hf⟩ := cb_e hf
    refine r_cVi (n := 1) (As := [.int a0]) (rest := []) C (c_fX11_readWho hj σ6 H.size a0 hc9) oM_0 rfl gv_RX11_256 (by decide +kernel) (rmD_le (by decide) (by decide)) rfl rfl (Nat.le_of_ble_eq_true rfl) dX11_readLine_40 hP hS hl.1 (fun H locs hP hS => ?_)
    exact b_fX11_readLine_43 C σ10 a0 r8 hf H locs ls hP hS (lv_sub hl [0, 1] rfl)
  · replace hf := it_f c7 hf
    refine lv_aload_n hx hb dX11_readLine_31 rfl (lv_at hl 0 rfl) ?_
    obtain ⟨r11, σ13, hc12, hf⟩ := cb_e hf
    refine r_cVi (n := 0) (As := []) (rest := []) C (c_fX11_readSum hj σ6 H.size hc12) oM_0 rfl gv_RX11_235 (by decide +kernel) (rmD_le (by decide) (by decide)) rfl rfl (Nat.le_of_ble_eq_true rfl) dX11_readLine_32 hP hS hl.1 (fun H locs hP hS => ?_)
    refine lv_goto (tgt := 43) hx hb dX11_readLine_35 (by decide) ?_
    exact b_fX11_readLine_43 C σ13 a0 r11 hf H locs ls hP hS (lv_sub hl [0, 1] rfl)
def fX11_isBegin (σ : St) : Int32 :=
(if (σ 0 21) = 2 then
(if (σ 0 32) = 0 then
(if (fX11_isIn (σ 0 22) 4 6) = 0 then
0
else
1)
else
(if 3 < (σ 0 22) then
0
else
1))
else
0)
set_option maxHeartbeats 4000000 in
theorem c_fX11_isBegin {E : Ev} {l : Launch} (hj : jW false E) (σ : St) (sz : Nat) : Met l yX11_isBegin (Cond.code yX11_isBegin cX11_isBegin 1 (some .boolean) :: gT) (rmD 2) (va_Pc [.ref (ea E 0)] (preW false E σ sz)) (QI false E (fX11_isBegin σ) σ sz) 0 0 (aW false E sz) := by
  refine r_entry (QI false E (fX11_isBegin σ) σ) hj (by decide) [.ref (ea E 0)] (Nat.le_of_ble_eq_true rfl) (fun p e s m args below meth c C => ?_)
  intro H locs ls hP hS hl
  have hl : lv_has ls 1 [(0, .ref (ea E 0))] := hl
  obtain ⟨hx, hb, hr, hml, hown, hts, hlocks, hK, hX, hj⟩ := id C
  generalize hf : fX11_isBegin σ = rr
  unfold fX11_isBegin at hf
  refine lv_aload_n hx hb dX11_isBegin_0 rfl (lv_at hl 0 rfl) ?_
  refine r_get (k := 21) (v := .int (σ 0 21)) C hP oM_0 rfl iX11 (by decide) wm_t1038 rfl rfl dX11_isBegin_1 ?_
  refine lv_iconst (v := 2) hx hb dX11_isBegin_4 (by decide) ?_
  refine lv_icmp_ne (tgt := 44) hx hb dX11_isBegin_5 (by decide) (fun c1 => ?_) (fun c1 => ?_)
  · replace hf := it_f c1 hf
    refine lv_iconst (v := 0) hx hb dX11_isBegin_44 (by decide) ?_
    subst hf
    exact r_zret C rfl hP hS dX11_isBegin_45
  · replace hf := it_t c1 hf
    refine lv_aload_n hx hb dX11_isBegin_8 rfl (lv_at hl 0 rfl) ?_
    refine r_get (k := 32) (v := .int (σ 0 32)) C hP oM_0 rfl iX11 (by decide) wm_t1049 rfl rfl dX11_isBegin_9 ?_
    refine lv_if_eq (tgt := 26) hx hb dX11_isBegin_12 (by decide) (fun c2 => ?_) (fun c2 => ?_)
    · replace hf := it_t c2 hf
      refine lv_aload_n hx hb dX11_isBegin_26 rfl (lv_at hl 0 rfl) ?_
      refine lv_aload_n hx hb dX11_isBegin_27 rfl (lv_at hl 0 rfl) ?_
      refine r_get (k := 22) (v := .int (σ 0 22)) C hP oM_0 rfl iX11 (by decide) wm_t1039 rfl rfl dX11_isBegin_28 ?_
      refine lv_iconst (v := 4) hx hb dX11_isBegin_31 (by decide) ?_
      refine lv_bipush (v := 6) hx hb dX11_isBegin_32 (by decide) ?_
      refine r_cVi (n := 3) (As := [.int (σ 0 22), .int 4, .int 6]) (rest := []) C (c_fX11_isIn hj σ H.size (σ 0 22) 4 6) oM_0 rfl gv_RX11_144 (by decide +kernel) (rmD_le (by decide) (by decide)) rfl rfl (Nat.le_of_ble_eq_true rfl) dX11_isBegin_34 hP hS hl.1 (fun H locs hP hS => ?_)
      refine lv_if_eq (tgt := 44) hx hb dX11_isBegin_37 (by decide) (fun c3 => ?_) (fun c3 => ?_)
      · replace hf := it_t c3 hf
        refine lv_iconst (v := 0) hx hb dX11_isBegin_44 (by decide) ?_
        subst hf
        exact r_zret C rfl hP hS dX11_isBegin_45
      · replace hf := it_f c3 hf
        refine lv_iconst (v := 1) hx hb dX11_isBegin_40 (by decide) ?_
        refine lv_goto (tgt := 45) hx hb dX11_isBegin_41 (by decide) ?_
        subst hf
        exact r_zret C rfl hP hS dX11_isBegin_45
    · replace hf := it_f c2 hf
      refine lv_aload_n hx hb dX11_isBegin_15 rfl (lv_at hl 0 rfl) ?_
      refine r_get (k := 22) (v := .int (σ 0 22)) C hP oM_0 rfl iX11 (by decide) wm_t1039 rfl rfl dX11_isBegin_16 ?_
      refine lv_iconst (v := 3) hx hb dX11_isBegin_19 (by decide) ?_
      refine lv_icmp_gt (tgt := 44) hx hb dX11_isBegin_20 (by decide) (fun c4 => ?_) (fun c4 => ?_)
      · replace hf := it_t c4 hf
        refine lv_iconst (v := 0) hx hb dX11_isBegin_44 (by decide) ?_
        subst hf
        exact r_zret C rfl hP hS dX11_isBegin_45
      · replace hf := it_f c4 hf
        refine lv_goto (tgt := 40) hx hb dX11_isBegin_23 (by decide) ?_
        refine lv_iconst (v := 1) hx hb dX11_isBegin_40 (by decide) ?_
        refine lv_goto (tgt := 45) hx hb dX11_isBegin_41 (by decide) ?_
        subst hf
        exact r_zret C rfl hP hS dX11_isBegin_45
theorem z_fX11_isBegin (σ : St) : fX11_isBegin σ = 0 ∨ fX11_isBegin σ = 1 := by
  unfold fX11_isBegin
  repeat' split
  all_goals first | exact Or.inl rfl | exact Or.inr rfl | exact z_fX11_isIn _ _ _
def fX11_readText_21B (rec21 : St → Int32 → Option (Int32 × St)) (σ : St) (x1 : Int32) : Option (Int32 × St) :=
(if (fX11_isBegin σ) = 0 then
(if (σ 0 21) = 0 then
some (x1, σ)
else
(cb (fX11_fails σ 1) fun r3 σ5 =>
some (r3, σ5)))
else
(if x1 = 16 then
(cb (fX11_fails σ 3) fun r11 σ13 =>
some (r11, σ13))
else
(cb (fX11_readLine σ (32 + x1)) fun r7 σ9 =>
(if r7 = (-1) then
some ((-1), σ9)
else
rec21 σ9 (x1 + 1)))))
set_option maxHeartbeats 4000000 in
theorem b_fX11_readText_21B {E : Ev} {l : Launch} {p : Program} {e : Env} {s : State} {m : MethodId} {args : Array Value} {below : List Frame} {meth : Method} {c : Code} (C : CX false E RX11 cX11_readText 2 (some .int) p s m args meth c) {rr : Int32} {sr : St} (rec21 : St → Int32 → Option (Int32 × St)) (hr21 : ∀ (σ : St) (x1 : Int32), rec21 σ x1 = some (rr, sr) → GW false l (rmD 10) E 2 p e s m args below meth c (MQ below (QI false E rr sr s.heap.size) args s 0 0 (aW false E s.heap.size)) σ 21 [(0, .ref (ea E 0)), (1, .int x1)] []) : ∀ (σ : St) (x1 : Int32), fX11_readText_21B rec21 σ x1 = some (rr, sr) → GW false l (rmD 10) E 2 p e s m args below meth c (MQ below (QI false E rr sr s.heap.size) args s 0 0 (aW false E s.heap.size)) σ 21 [(0, .ref (ea E 0)), (1, .int x1)] [] := by
  intro σ x1 hf H locs ls hP hS hl
  obtain ⟨hx, hb, hr, hml, hown, hts, hlocks, hK, hX, hj⟩ := id C
  unfold fX11_readText_21B at hf
  refine lv_aload_n hx hb dX11_readText_21 rfl (lv_at hl 0 rfl) ?_
  refine r_cVi (n := 0) (As := []) (rest := []) C (c_fX11_isBegin hj σ H.size) oM_0 rfl gv_RX11_262 (by decide +kernel) (rmD_le (by decide) (by decide)) rfl rfl (Nat.le_of_ble_eq_true rfl) dX11_readText_22 hP hS hl.1 (fun H locs hP hS => ?_)
  refine lv_if_eq (tgt := 61) hx hb dX11_readText_25 (by decide) (fun c1 => ?_) (fun c1 => ?_)
  · replace hf := it_t c1 hf
    refine lv_aload_n hx hb dX11_readText_61 rfl (lv_at hl 0 rfl) ?_
    refine r_get (k := 21) (v := .int (σ 0 21)) C hP oM_0 rfl iX11 (by decide) wm_t1038 rfl rfl dX11_readText_62 ?_
    refine lv_if_ne (tgt := 72) hx hb dX11_readText_65 (by decide) (fun c2 => ?_) (fun c2 => ?_)
    · replace hf := it_f c2 hf
      refine lv_aload_n hx hb dX11_readText_72 rfl (lv_at hl 0 rfl) ?_
      refine lv_iconst (v := 1) hx hb dX11_readText_73 (by decide) ?_
      obtain ⟨r3, σ5, hc4, hf⟩ := cb_e hf
      refine r_cVi (n := 1) (As := [.int 1]) (rest := []) C (c_fX11_fails hj σ H.size 1 hc4) oM_0 rfl gv_RX11_215 (by decide +kernel) (rmD_le (by decide) (by decide)) rfl rfl (Nat.le_of_ble_eq_true rfl) dX11_readText_74 hP hS hl.1 (fun H locs hP hS => ?_)
      cases hf
      exact r_iret C hP hS dX11_readText_77
    · replace hf := it_t c2 hf
      refine lv_iload_n hx hb dX11_readText_68 rfl (lv_at hl 1 rfl) ?_
      refine lv_goto (tgt := 77) hx hb dX11_readText_69 (by decide) ?_
      cases hf
      exact r_iret C hP hS dX11_readText_77
  · replace hf := it_f c1 hf
    refine lv_iload_n hx hb dX11_readText_28 rfl (lv_at hl 1 rfl) ?_
    refine lv_bipush (v := 16) hx hb dX11_readText_29 (by decide) ?_
    refine lv_icmp_ne (tgt := 40) hx hb dX11_readText_31 (by decide) (fun c6 => ?_) (fun c6 => ?_)
    · replace hf := it_f c6 hf
      refine lv_aload_n hx hb dX11_readText_40 rfl (lv_at hl 0 rfl) ?_
      refine lv_bipush (v := 32) hx hb dX11_readText_41 (by decide) ?_
      refine lv_iload_n hx hb dX11_readText_43 rfl (lv_at hl 1 rfl) ?_
      refine lv_iadd hx hb dX11_readText_44 ?_
      obtain ⟨r7, σ9, hc8, hf⟩ := cb_e hf
      refine r_cVi (n := 1) (As := [.int (32 + x1)]) (rest := []) C (c_fX11_readLine hj σ H.size (32 + x1) hc8) oM_0 rfl gv_RX11_265 (by decide +kernel) (rmD_le (by decide) (by decide)) rfl rfl (Nat.le_of_ble_eq_true rfl) dX11_readText_45 hP hS hl.1 (fun H locs hP hS => ?_)
      refine lv_iconst (v := (-1)) hx hb dX11_readText_48 (by decide) ?_
      refine lv_icmp_ne (tgt := 54) hx hb dX11_readText_49 (by decide) (fun c10 => ?_) (fun c10 => ?_)
      · replace hf := it_f c10 hf
        refine lv_iload_n hx hb dX11_readText_54 rfl (lv_at hl 1 rfl) ?_
        refine lv_iconst (v := 1) hx hb dX11_readText_55 (by decide) ?_
        refine lv_iadd hx hb dX11_readText_56 ?_
        refine lv_istore_n (lv' := [(1, .int (x1 + 1)), (0, .ref (ea E 0))]) hx hb dX11_readText_57 rfl hl (by decide) rfl (fun ls hl => ?_)
        refine lv_goto (tgt := 21) hx hb dX11_readText_58 (by decide) ?_
        exact hr21 σ9 (x1 + 1) hf H locs ls hP hS (lv_sub hl [1, 0] rfl)
      · replace hf := it_t c10 hf
        refine lv_iconst (v := (-1)) hx hb dX11_readText_52 (by decide) ?_
        cases hf
        exact r_iret C hP hS dX11_readText_53
    · replace hf := it_t c6 hf
      refine lv_aload_n hx hb dX11_readText_34 rfl (lv_at hl 0 rfl) ?_
      refine lv_iconst (v := 3) hx hb dX11_readText_35 (by decide) ?_
      obtain ⟨r11, σ13, hc12, hf⟩ := cb_e hf
      refine r_cVi (n := 1) (As := [.int 3]) (rest := []) C (c_fX11_fails hj σ H.size 3 hc12) oM_0 rfl gv_RX11_215 (by decide +kernel) (rmD_le (by decide) (by decide)) rfl rfl (Nat.le_of_ble_eq_true rfl) dX11_readText_36 hP hS hl.1 (fun H locs hP hS => ?_)
      cases hf
      exact r_iret C hP hS dX11_readText_39
def fX11_readText_21 : Nat → St → Int32 → Option (Int32 × St)
  | 0 => fun _ _ => none
  | n + 1 => fun σ x1 => fX11_readText_21B (fX11_readText_21 n) σ x1
theorem b_fX11_readText_21 {E : Ev} {l : Launch} {p : Program} {e : Env} {s : State} {m : MethodId} {args : Array Value} {below : List Frame} {meth : Method} {c : Code} (C : CX false E RX11 cX11_readText 2 (some .int) p s m args meth c) {rr : Int32} {sr : St} : ∀ (n : Nat) (σ : St) (x1 : Int32), fX11_readText_21 n σ x1 = some (rr, sr) → GW false l (rmD 10) E 2 p e s m args below meth c (MQ below (QI false E rr sr s.heap.size) args s 0 0 (aW false E s.heap.size)) σ 21 [(0, .ref (ea E 0)), (1, .int x1)] [] := by
  intro n
  induction n with
  | zero => intro σ x1 hf; have hf : (none : Option _) = some _ := hf; cases hf
  | succ n ih => intro σ x1 hf; exact b_fX11_readText_21B C (fX11_readText_21 n) ih σ x1 hf
def fX11_readText (σ : St) : Option (Int32 × St) :=
(nmS (st_put σ 0 19 0) fun σ1 =>
(nmS (st_put σ1 0 33 0) fun σ2 =>
(nmS (st_put σ2 0 34 0) fun σ3 =>
(cv (fX11_reads σ3) fun σ5 =>
fX11_readText_21 FU σ5 0))))
set_option maxHeartbeats 4000000 in
theorem c_fX11_readText {E : Ev} {l : Launch} (hj : jW false E) (σ : St) (sz : Nat) {rr : Int32} {sr : St} (hf : fX11_readText σ = some (rr, sr)) : Met l yX11_readText (Cond.code yX11_readText cX11_readText 2 (some .int) :: gT) (rmD 10) (va_Pc [.ref (ea E 0)] (preW false E σ sz)) (QI false E rr sr sz) 0 0 (aW false E sz) := by
  refine r_entry (QI false E rr sr) hj (by decide) [.ref (ea E 0)] (Nat.le_of_ble_eq_true rfl) (fun p e s m args below meth c C => ?_)
  intro H locs ls hP hS hl
  have hl : lv_has ls 2 [(0, .ref (ea E 0))] := hl
  obtain ⟨hx, hb, hr, hml, hown, hts, hlocks, hK, hX, hj⟩ := id C
  unfold fX11_readText at hf
  refine lv_iconst (v := 0) hx hb dX11_readText_0 (by decide) ?_
  refine lv_istore_n (lv' := [(1, .int 0), (0, .ref (ea E 0))]) hx hb dX11_readText_1 rfl hl (by decide) rfl (fun ls hl => ?_)
  refine lv_aload_n hx hb dX11_readText_2 rfl (lv_at hl 1 rfl) ?_
  refine lv_iconst (v := 0) hx hb dX11_readText_3 (by decide) ?_
  refine r_put (k := 19) (x := 0) C hP hS tyX11 tyX11_ok nmX11 oM_0 rfl iX11 (by decide) wm_t1036 rfl rfl sM_0_19 rfl rfl (Nat.le_of_ble_eq_true rfl) dX11_readText_4 (fun H locs hP hS => ?_)
  obtain ⟨σ1, eσ1, hf⟩ := nmS_e hf
  rw [← eσ1] at hP
  refine lv_aload_n hx hb dX11_readText_7 rfl (lv_at hl 1 rfl) ?_
  refine lv_iconst (v := 0) hx hb dX11_readText_8 (by decide) ?_
  refine r_put (k := 33) (x := 0) C hP hS tyX11 tyX11_ok nmX11 oM_0 rfl iX11 (by decide) wm_t1050 rfl rfl sM_0_33 rfl rfl (Nat.le_of_ble_eq_true rfl) dX11_readText_9 (fun H locs hP hS => ?_)
  obtain ⟨σ2, eσ2, hf⟩ := nmS_e hf
  rw [← eσ2] at hP
  refine lv_aload_n hx hb dX11_readText_12 rfl (lv_at hl 1 rfl) ?_
  refine lv_iconst (v := 0) hx hb dX11_readText_13 (by decide) ?_
  refine r_put (k := 34) (x := 0) C hP hS tyX11 tyX11_ok nmX11 oM_0 rfl iX11 (by decide) wm_t1051 rfl rfl sM_0_34 rfl rfl (Nat.le_of_ble_eq_true rfl) dX11_readText_14 (fun H locs hP hS => ?_)
  obtain ⟨σ3, eσ3, hf⟩ := nmS_e hf
  rw [← eσ3] at hP
  refine lv_aload_n hx hb dX11_readText_17 rfl (lv_at hl 1 rfl) ?_
  obtain ⟨σ5, hc4, hf⟩ := cv_e hf
  refine r_cVv (n := 0) (As := []) (rest := []) C (c_fX11_reads hj σ3 H.size hc4) oM_0 rfl gv_RX11_222 (by decide +kernel) (rmD_le (by decide) (by decide)) rfl rfl (Nat.le_of_ble_eq_true rfl) dX11_readText_18 hP hS hl.1 (fun H locs hP hS => ?_)
  exact b_fX11_readText_21 C FU σ5 0 hf H locs ls hP hS (lv_sub hl [1, 0] rfl)
