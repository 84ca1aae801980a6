def fX8_shake_2B (b : Nat) (rec2 : St → Int32 → Int32 → Option St) (σ : St) (x1 : Int32) (x2 : Int32) : Option St :=
(if (nI (stN b)) ≤ x2 then
some σ
else
(rdK (stN b) (σ (b + 1)) x2 fun v2 =>
(if v2 ≤ 0 then
rec2 σ x1 (x2 + 1)
else
(rdK (stN b) (σ (b + 3)) x2 fun v5 =>
(wrK (stN b) σ (b + 3) x2 (if 9999 < (v5 + x1) then 9999 else (v5 + x1)) fun σ7 =>
rec2 σ7 x1 (x2 + 1))))))
set_option maxHeartbeats 4000000 in
theorem b_fX8_shake_2B {E : Ev} {l : Launch} {p : Program} {e : Env} {s : State} {m : MethodId} {args : Array Value} {below : List Frame} {meth : Method} {c : Code} {b : Nat} (hfb : fS b) (C : CX true E RX8 cX8_shake 3 none p s m args meth c) {sr : St} (rec2 : St → Int32 → Int32 → Option St) (hr2 : ∀ (σ : St) (x1 : Int32) (x2 : Int32), rec2 σ x1 x2 = some sr → GW true l (rmD 2) E 3 p e s m args below meth c (MQ below (QV true E sr s.heap.size) args s 0 0 (aW true E s.heap.size)) σ 2 [(0, .ref (ea E b)), (1, .int x1), (2, .int x2)] []) : ∀ (σ : St) (x1 : Int32) (x2 : Int32), fX8_shake_2B b rec2 σ x1 x2 = some sr → GW true l (rmD 2) E 3 p e s m args below meth c (MQ below (QV true E sr s.heap.size) args s 0 0 (aW true E s.heap.size)) σ 2 [(0, .ref (ea E b)), (1, .int x1), (2, .int x2)] [] := by
  intro σ x1 x2 hf H locs ls hP hS hl
  obtain ⟨hx, hb, hr, hml, hown, hts, hlocks, hK, hX, hj⟩ := id C
  unfold fX8_shake_2B at hf
  refine lv_iload_n hx hb dX8_shake_2 rfl (lv_at hl 2 rfl) ?_
  refine lv_aload_n hx hb dX8_shake_3 rfl (lv_at hl 0 rfl) ?_
  refine r_get (k := 3) (v := .ref (ea E (b + 1))) C hP (oS hfb) rfl iX8 (by decide) wm_t55 rfl rfl dX8_shake_4 ?_
  refine r_alen (v := (nI (stN b))) C hP (aS_1 hfb) rfl dX8_shake_7 ?_
  refine lv_icmp_ge (tgt := 46) hx hb dX8_shake_8 (by decide) (fun c1 => ?_) (fun c1 => ?_)
  · replace hf := it_t c1 hf
    cases hf
    exact r_vret C hP hS dX8_shake_46
  · replace hf := it_f c1 hf
    refine lv_aload_n hx hb dX8_shake_11 rfl (lv_at hl 0 rfl) ?_
    refine r_get (k := 3) (v := .ref (ea E (b + 1))) C hP (oS hfb) rfl iX8 (by decide) wm_t55 rfl rfl dX8_shake_12 ?_
    refine lv_iload_n hx hb dX8_shake_15 rfl (lv_at hl 2 rfl) ?_
    have h3 := (rdK_e hf).1
    refine r_ald C hP (aS_1 hfb) h3 dX8_shake_16 ?_
    refine lv_topi (fun v2 ev2 => ?_)
    replace hf := rdK_n ev2 hf
    refine lv_if_le (tgt := 40) hx hb dX8_shake_17 (by decide) (fun c4 => ?_) (fun c4 => ?_)
    · replace hf := it_t c4 hf
      refine lv_iinc (v := (x2 + 1)) (lv' := [(2, .int (x2 + 1)), (0, .ref (ea E b)), (1, .int x1)]) hx hb dX8_shake_40 hl (k := 2) rfl rfl (by decide) rfl (fun ls hl => ?_)
      refine lv_goto (tgt := 2) hx hb dX8_shake_43 (by decide) ?_
      exact hr2 σ x1 (x2 + 1) hf H locs ls hP hS (lv_sub hl [1, 2, 0] rfl)
    · replace hf := it_f c4 hf
      refine lv_aload_n hx hb dX8_shake_20 rfl (lv_at hl 0 rfl) ?_
      refine r_get (k := 5) (v := .ref (ea E (b + 3))) C hP (oS hfb) rfl iX8 (by decide) wm_t63 rfl rfl dX8_shake_21 ?_
      refine lv_iload_n hx hb dX8_shake_24 rfl (lv_at hl 2 rfl) ?_
      refine lv_aload_n hx hb dX8_shake_25 rfl (lv_at hl 0 rfl) ?_
      refine r_get (k := 5) (v := .ref (ea E (b + 3))) C hP (oS hfb) rfl iX8 (by decide) wm_t63 rfl rfl dX8_shake_26 ?_
      refine lv_iload_n hx hb dX8_shake_29 rfl (lv_at hl 2 rfl) ?_
      have h6 := (rdK_e hf).1
      refine r_ald C hP (aS_3 hfb) h6 dX8_shake_30 ?_
      refine lv_topi (fun v5 ev5 => ?_)
      replace hf := rdK_n ev5 hf
      refine lv_iload_n hx hb dX8_shake_31 rfl (lv_at hl 1 rfl) ?_
      refine lv_iadd hx hb dX8_shake_32 ?_
      refine lv_sipush (v := 9999) hx hb dX8_shake_33 (by decide) ?_
      refine va_mmin hx hb (hml.trans hl.1.symm) hown (hts _ wm_t652) (hts _ wm_t505) (hts _ wm_t4) (hts _ wm_t506) (by decide) (Nat.le_of_ble_eq_true rfl) (Nat.zero_le _) (Nat.zero_le _) dX8_shake_36 ?_
      obtain ⟨h8, σ7, eσ7, hf⟩ := wrK_e hf
      refine r_ast C hP hS (aS_3 hfb) h8 dX8_shake_39 (fun H locs hP hS => ?_)
      rw [← eσ7] at hP
      refine lv_iinc (v := (x2 + 1)) (lv' := [(2, .int (x2 + 1)), (0, .ref (ea E b)), (1, .int x1)]) hx hb dX8_shake_40 hl (k := 2) rfl rfl (by decide) rfl (fun ls hl => ?_)
      refine lv_goto (tgt := 2) hx hb dX8_shake_43 (by decide) ?_
      exact hr2 σ7 x1 (x2 + 1) hf H locs ls hP hS (lv_sub hl [1, 2, 0] rfl)
def fX8_shake_2 (b : Nat) : Nat → St → Int32 → Int32 → Option St
  | 0 => fun _ _ _ => none
  | n + 1 => fun σ x1 x2 => fX8_shake_2B b (fX8_shake_2 b n) σ x1 x2
theorem b_fX8_shake_2 {E : Ev} {l : Launch} {p : Program} {e : Env} {s : State} {m : MethodId} {args : Array Value} {below : List Frame} {meth : Method} {c : Code} {b : Nat} (hfb : fS b) (C : CX true E RX8 cX8_shake 3 none p s m args meth c) {sr : St} : ∀ (n : Nat) (σ : St) (x1 : Int32) (x2 : Int32), fX8_shake_2 b n σ x1 x2 = some sr → GW true l (rmD 2) E 3 p e s m args below meth c (MQ below (QV true E sr s.heap.size) args s 0 0 (aW true E s.heap.size)) σ 2 [(0, .ref (ea E b)), (1, .int x1), (2, .int x2)] [] := by
  intro n
  induction n with
  | zero => intro σ x1 x2 hf; have hf : (none : Option _) = some _ := hf; cases hf
  | succ n ih => intro σ x1 x2 hf; exact b_fX8_shake_2B hfb C (fX8_shake_2 b n) ih σ x1 x2 hf
def fX8_shake (b : Nat) (σ : St) (a0 : Int32) : Option St :=
fX8_shake_2 b FU σ a0 0
set_option maxHeartbeats 4000000 in
theorem c_fX8_shake {E : Ev} {l : Launch} {b : Nat} (hfb : fS b) (hj : jW true E) (σ : St) (sz : Nat) (a0 : Int32) {sr : St} (hf : fX8_shake b σ a0 = some sr) : Met l yX8_shake (Cond.code yX8_shake cX8_shake 3 none :: gT) (rmD 2) (va_Pc [.ref (ea E b), .int a0] (preW true E σ sz)) (QV true E sr sz) 0 0 (aW true E sz) := by
  refine r_entry (QV true E sr) hj (by decide) [.ref (ea E b), .int a0] (Nat.le_of_ble_eq_true rfl) (fun p e s m args below meth c C => ?_)
  intro H locs ls hP hS hl
  have hl : lv_has ls 3 [(0, .ref (ea E b)), (1, .int a0)] := hl
  obtain ⟨hx, hb, hr, hml, hown, hts, hlocks, hK, hX, hj⟩ := id C
  unfold fX8_shake at hf
  refine lv_iconst (v := 0) hx hb dX8_shake_0 (by decide) ?_
  refine lv_istore_n (lv' := [(2, .int 0), (0, .ref (ea E b)), (1, .int a0)]) hx hb dX8_shake_1 rfl hl (by decide) rfl (fun ls hl => ?_)
  exact b_fX8_shake_2 hfb C FU σ a0 0 hf H locs ls hP hS (lv_sub hl [1, 2, 0] rfl)
def fX9_clear (b : Nat) (σ : St) : Option St :=
(nmS (st_put σ b 0 0) fun σ1 =>
(nmS (st_put σ1 b 1 0) fun σ2 =>
some σ2))
set_option maxHeartbeats 4000000 in
theorem c_fX9_clear {E : Ev} {l : Launch} {b : Nat} (hfb : fW b) (hj : jW true E) (σ : St) (sz : Nat) {sr : St} (hf : fX9_clear b σ = some sr) : Met l yX9_clear (Cond.code yX9_clear cX9_clear 1 none :: gT) (rmD 1) (va_Pc [.ref (ea E b)] (preW true E σ sz)) (QV true E sr sz) 0 0 (aW true E sz) := by
  refine r_entry (QV true E sr) hj (by decide) [.ref (ea E b)] (Nat.le_of_ble_eq_true rfl) (fun p e s m args below meth c C => ?_)
  intro H locs ls hP hS hl
  have hl : lv_has ls 1 [(0, .ref (ea E b))] := hl
  obtain ⟨hx, hb, hr, hml, hown, hts, hlocks, hK, hX, hj⟩ := id C
  unfold fX9_clear at hf
  refine lv_aload_n hx hb dX9_clear_0 rfl (lv_at hl 0 rfl) ?_
  refine lv_iconst (v := 0) hx hb dX9_clear_1 (by decide) ?_
  refine r_put (k := 0) (x := 0) C hP hS tyX9 tyX9_ok nmX9 (oW hfb) rfl iX9 (by decide) wm_t133 rfl rfl sW_0 rfl rfl (Nat.le_of_ble_eq_true rfl) dX9_clear_2 (fun H locs hP hS => ?_)
  obtain ⟨σ1, eσ1, hf⟩ := nmS_e hf
  rw [← eσ1] at hP
  refine lv_aload_n hx hb dX9_clear_5 rfl (lv_at hl 0 rfl) ?_
  refine lv_iconst (v := 0) hx hb dX9_clear_6 (by decide) ?_
  refine r_put (k := 1) (x := 0) C hP hS tyX9 tyX9_ok nmX9 (oW hfb) rfl iX9 (by decide) wm_t138 rfl rfl sW_1 rfl rfl (Nat.le_of_ble_eq_true rfl) dX9_clear_7 (fun H locs hP hS => ?_)
  obtain ⟨σ2, eσ2, hf⟩ := nmS_e hf
  rw [← eσ2] at hP
  cases hf
  exact r_vret C hP hS dX9_clear_10
def fX9_beginLine (b : Nat) (σ : St) (a0 : Int32) (a1 : Int32) : Option St :=
(if 16 ≤ (σ b 0) then
some σ
else
(wrK 16 σ (b + 2) (σ b 0) a0 fun σ2 =>
(wrK 16 σ2 (b + 3) (σ2 b 0) a1 fun σ4 =>
some σ4)))
set_option maxHeartbeats 4000000 in
theorem c_fX9_beginLine {E : Ev} {l : Launch} {b : Nat} (hfb : fW b) (hj : jW true E) (σ : St) (sz : Nat) (a0 : Int32) (a1 : Int32) {sr : St} (hf : fX9_beginLine b σ a0 a1 = some sr) : Met l yX9_beginLine (Cond.code yX9_beginLine cX9_beginLine 3 none :: gT) (rmD 1) (va_Pc [.ref (ea E b), .int a0, .int a1] (preW true E σ sz)) (QV true E sr sz) 0 0 (aW true E sz) := by
  refine r_entry (QV true E sr) hj (by decide) [.ref (ea E b), .int a0, .int a1] (Nat.le_of_ble_eq_true rfl) (fun p e s m args below meth c C => ?_)
  intro H locs ls hP hS hl
  have hl : lv_has ls 3 [(0, .ref (ea E b)), (1, .int a0), (2, .int a1)] := hl
  obtain ⟨hx, hb, hr, hml, hown, hts, hlocks, hK, hX, hj⟩ := id C
  unfold fX9_beginLine at hf
  refine lv_aload_n hx hb dX9_beginLine_0 rfl (lv_at hl 0 rfl) ?_
  refine r_get (k := 0) (v := .int (σ b 0)) C hP (oW hfb) rfl iX9 (by decide) wm_t133 rfl rfl dX9_beginLine_1 ?_
  refine lv_bipush (v := 16) hx hb dX9_beginLine_4 (by decide) ?_
  refine lv_icmp_ge (tgt := 29) hx hb dX9_beginLine_6 (by decide) (fun c1 => ?_) (fun c1 => ?_)
  · replace hf := it_t c1 hf
    cases hf
    exact r_vret C hP hS dX9_beginLine_29
  · replace hf := it_f c1 hf
    refine lv_aload_n hx hb dX9_beginLine_9 rfl (lv_at hl 0 rfl) ?_
    refine r_get (k := 3) (v := .ref (ea E (b + 2))) C hP (oW hfb) rfl iX9 (by decide) wm_t140 rfl rfl dX9_beginLine_10 ?_
    refine lv_aload_n hx hb dX9_beginLine_13 rfl (lv_at hl 0 rfl) ?_
    refine r_get (k := 0) (v := .int (σ b 0)) C hP (oW hfb) rfl iX9 (by decide) wm_t133 rfl rfl dX9_beginLine_14 ?_
    refine lv_iload_n hx hb dX9_beginLine_17 rfl (lv_at hl 1 rfl) ?_
    obtain ⟨h3, σ2, eσ2, hf⟩ := wrK_e hf
    refine r_ast C hP hS (aW_2 hfb) h3 dX9_beginLine_18 (fun H locs hP hS => ?_)
    rw [← eσ2] at hP
    refine lv_aload_n hx hb dX9_beginLine_19 rfl (lv_at hl 0 rfl) ?_
    refine r_get (k := 4) (v := .ref (ea E (b + 3))) C hP (oW hfb) rfl iX9 (by decide) wm_t141 rfl rfl dX9_beginLine_20 ?_
    refine lv_aload_n hx hb dX9_beginLine_23 rfl (lv_at hl 0 rfl) ?_
    refine r_get (k := 0) (v := .int (σ2 b 0)) C hP (oW hfb) rfl iX9 (by decide) wm_t133 rfl rfl dX9_beginLine_24 ?_
    refine lv_iload_n hx hb dX9_beginLine_27 rfl (lv_at hl 2 rfl) ?_
    obtain ⟨h5, σ4, eσ4, hf⟩ := wrK_e hf
    refine r_ast C hP hS (aW_3 hfb) h5 dX9_beginLine_28 (fun H locs hP hS => ?_)
    rw [← eσ4] at hP
    cases hf
    exact r_vret C hP hS dX9_beginLine_29
def fX9_beginWhen (b : Nat) (σ : St) : Option St :=
(if 16 ≤ (σ b 0) then
some σ
else
(wrK 16 σ (b + 4) (σ b 0) (σ b 1) fun σ2 =>
some σ2))
set_option maxHeartbeats 4000000 in
theorem c_fX9_beginWhen {E : Ev} {l : Launch} {b : Nat} (hfb : fW b) (hj : jW true E) (σ : St) (sz : Nat) {sr : St} (hf : fX9_beginWhen b σ = some sr) : Met l yX9_beginWhen (Cond.code yX9_beginWhen cX9_beginWhen 1 none :: gT) (rmD 1) (va_Pc [.ref (ea E b)] (preW true E σ sz)) (QV true E sr sz) 0 0 (aW true E sz) := by
  refine r_entry (QV true E sr) hj (by decide) [.ref (ea E b)] (Nat.le_of_ble_eq_true rfl) (fun p e s m args below meth c C => ?_)
  intro H locs ls hP hS hl
  have hl : lv_has ls 1 [(0, .ref (ea E b))] := hl
  obtain ⟨hx, hb, hr, hml, hown, hts, hlocks, hK, hX, hj⟩ := id C
  unfold fX9_beginWhen at hf
  refine lv_aload_n hx hb dX9_beginWhen_0 rfl (lv_at hl 0 rfl) ?_
  refine r_get (k := 0) (v := .int (σ b 0)) C hP (oW hfb) rfl iX9 (by decide) wm_t133 rfl rfl dX9_beginWhen_1 ?_
  refine lv_bipush (v := 16) hx hb dX9_beginWhen_4 (by decide) ?_
  refine lv_icmp_ge (tgt := 22) hx hb dX9_beginWhen_6 (by decide) (fun c1 => ?_) (fun c1 => ?_)
  · replace hf := it_t c1 hf
    cases hf
    exact r_vret C hP hS dX9_beginWhen_22
  · replace hf := it_f c1 hf
    refine lv_aload_n hx hb dX9_beginWhen_9 rfl (lv_at hl 0 rfl) ?_
    refine r_get (k := 5) (v := .ref (ea E (b + 4))) C hP (oW hfb) rfl iX9 (by decide) wm_t142 rfl rfl dX9_beginWhen_10 ?_
    refine lv_aload_n hx hb dX9_beginWhen_13 rfl (lv_at hl 0 rfl) ?_
    refine r_get (k := 0) (v := .int (σ b 0)) C hP (oW hfb) rfl iX9 (by decide) wm_t133 rfl rfl dX9_beginWhen_14 ?_
    refine lv_aload_n hx hb dX9_beginWhen_17 rfl (lv_at hl 0 rfl) ?_
    refine r_get (k := 1) (v := .int (σ b 1)) C hP (oW hfb) rfl iX9 (by decide) wm_t138 rfl rfl dX9_beginWhen_18 ?_
    obtain ⟨h3, σ2, eσ2, hf⟩ := wrK_e hf
    refine r_ast C hP hS (aW_4 hfb) h3 dX9_beginWhen_21 (fun H locs hP hS => ?_)
    rw [← eσ2] at hP
    cases hf
    exact r_vret C hP hS dX9_beginWhen_22
def fX9_endLine (b : Nat) (σ : St) : Option St :=
(if 16 ≤ (σ b 0) then
some σ
else
(wrK 16 σ (b + 5) (σ b 0) (σ b 1) fun σ2 =>
(nmS (st_put σ2 b 0 ((σ2 b 0) + 1)) fun σ4 =>
some σ4)))
set_option maxHeartbeats 4000000 in
theorem c_fX9_endLine {E : Ev} {l : Launch} {b : Nat} (hfb : fW b) (hj : jW true E) (σ : St) (sz : Nat) {sr : St} (hf : fX9_endLine b σ = some sr) : Met l yX9_endLine (Cond.code yX9_endLine cX9_endLine 1 none :: gT) (rmD 1) (va_Pc [.ref (ea E b)] (preW true E σ sz)) (QV true E sr sz) 0 0 (aW true E sz) := by
  refine r_entry (QV true E sr) hj (by decide) [.ref (ea E b)] (Nat.le_of_ble_eq_true rfl) (fun p e s m args below meth c C => ?_)
  intro H locs ls hP hS hl
  have hl : lv_has ls 1 [(0, .ref (ea E b))] := hl
  obtain ⟨hx, hb, hr, hml, hown, hts, hlocks, hK, hX, hj⟩ := id C
  unfold fX9_endLine at hf
  refine lv_aload_n hx hb dX9_endLine_0 rfl (lv_at hl 0 rfl) ?_
  refine r_get (k := 0) (v := .int (σ b 0)) C hP (oW hfb) rfl iX9 (by decide) wm_t133 rfl rfl dX9_endLine_1 ?_
  refine lv_bipush (v := 16) hx hb dX9_endLine_4 (by decide) ?_
  refine lv_icmp_ge (tgt := 32) hx hb dX9_endLine_6 (by decide) (fun c1 => ?_) (fun c1 => ?_)
  · replace hf := it_t c1 hf
    cases hf
    exact r_vret C hP hS dX9_endLine_32
  · replace hf := it_f c1 hf
    refine lv_aload_n hx hb dX9_endLine_9 rfl (lv_at hl 0 rfl) ?_
    refine r_get (k := 6) (v := .ref (ea E (b + 5))) C hP (oW hfb) rfl iX9 (by decide) wm_t143 rfl rfl dX9_endLine_10 ?_
    refine lv_aload_n hx hb dX9_endLine_13 rfl (lv_at hl 0 rfl) ?_
    refine r_get (k := 0) (v := .int (σ b 0)) C hP (oW hfb) rfl iX9 (by decide) wm_t133 rfl rfl dX9_endLine_14 ?_
    refine lv_aload_n hx hb dX9_endLine_17 rfl (lv_at hl 0 rfl) ?_
    refine r_get (k := 1) (v := .int (σ b 1)) C hP (oW hfb) rfl iX9 (by decide) wm_t138 rfl rfl dX9_endLine_18 ?_
    obtain ⟨h3, σ2, eσ2, hf⟩ := wrK_e hf
    refine r_ast C hP hS (aW_5 hfb) h3 dX9_endLine_21 (fun H locs hP hS => ?_)
    rw [← eσ2] at hP
    refine lv_aload_n hx hb dX9_endLine_22 rfl (lv_at hl 0 rfl) ?_
    refine lv_dup hx hb dX9_endLine_23 rfl ?_
    refine r_get (k := 0) (v := .int (σ2 b 0)) C hP (oW hfb) rfl iX9 (by decide) wm_t133 rfl rfl dX9_endLine_24 ?_
    refine lv_iconst (v := 1) hx hb dX9_endLine_27 (by decide) ?_
    refine lv_iadd hx hb dX9_endLine_28 ?_
    refine r_put (k := 0) (x := ((σ2 b 0) + 1)) C hP hS tyX9 tyX9_ok nmX9 (oW hfb) rfl iX9 (by decide) wm_t133 rfl rfl sW_0 rfl rfl (Nat.le_of_ble_eq_true rfl) dX9_endLine_29 (fun H locs hP hS => ?_)
    obtain ⟨σ4, eσ4, hf⟩ := nmS_e hf
    rw [← eσ4] at hP
    cases hf
    exact r_vret C hP hS dX9_endLine_32
def fX9_add (b : Nat) (σ : St) (a0 : Int32) (a1 : Int32) : Option St :=
(if 600 ≤ (σ b 1) then
some σ
else
(wrK 600 σ (b + 1) (σ b 1) ((a0 * 16384) + a1) fun σ2 =>
(nmS (st_put σ2 b 1 ((σ2 b 1) + 1)) fun σ4 =>
some σ4)))
set_option maxHeartbeats 4000000 in
theorem c_fX9_add {E : Ev} {l : Launch} {b : Nat} (hfb : fW b) (hj : jW true E) (σ : St) (sz : Nat) (a0 : Int32) (a1 : Int32) {sr : St} (hf : fX9_add b σ a0 a1 = some sr) : Met l yX9_add (Cond.code yX9_add cX9_add 3 none :: gT) (rmD 1) (va_Pc [.ref (ea E b), .int a0, .int a1] (preW true E σ sz)) (QV true E sr sz) 0 0 (aW true E sz) := by
  refine r_entry (QV true E sr) hj (by decide) [.ref (ea E b), .int a0, .int a1] (Nat.le_of_ble_eq_true rfl) (fun p e s m args below meth c C => ?_)
  intro H locs ls hP hS hl
  have hl : lv_has ls 3 [(0, .ref (ea E b)), (1, .int a0), (2, .int a1)] := hl
  obtain ⟨hx, hb, hr, hml, hown, hts, hlocks, hK, hX, hj⟩ := id C
  unfold fX9_add at hf
  refine lv_aload_n hx hb dX9_add_0 rfl (lv_at hl 0 rfl) ?_
  refine r_get (k := 1) (v := .int (σ b 1)) C hP (oW hfb) rfl iX9 (by decide) wm_t138 rfl rfl dX9_add_1 ?_
  refine lv_sipush (v := 600) hx hb dX9_add_4 (by decide) ?_
  refine lv_icmp_ge (tgt := 36) hx hb dX9_add_7 (by decide) (fun c1 => ?_) (fun c1 => ?_)
  · replace hf := it_t c1 hf
    cases hf
    exact r_vret C hP hS dX9_add_36
  · replace hf := it_f c1 hf
    refine lv_aload_n hx hb dX9_add_10 rfl (lv_at hl 0 rfl) ?_
    refine r_get (k := 2) (v := .ref (ea E (b + 1))) C hP (oW hfb) rfl iX9 (by decide) wm_t139 rfl rfl dX9_add_11 ?_
    refine lv_aload_n hx hb dX9_add_14 rfl (lv_at hl 0 rfl) ?_
    refine r_get (k := 1) (v := .int (σ b 1)) C hP (oW hfb) rfl iX9 (by decide) wm_t138 rfl rfl dX9_add_15 ?_
    refine lv_iload_n hx hb dX9_add_18 rfl (lv_at hl 1 rfl) ?_
    refine lv_sipush (v := 16384) hx hb dX9_add_19 (by decide) ?_
    refine lv_imul hx hb dX9_add_22 ?_
    refine lv_iload_n hx hb dX9_add_23 rfl (lv_at hl 2 rfl) ?_
    refine lv_iadd hx hb dX9_add_24 ?_
    obtain ⟨h3, σ2, eσ2, hf⟩ := wrK_e hf
    refine r_ast C hP hS (aW_1 hfb) h3 dX9_add_25 (fun H locs hP hS => ?_)
    rw [← eσ2] at hP
    refine lv_aload_n hx hb dX9_add_26 rfl (lv_at hl 0 rfl) ?_
    refine lv_dup hx hb dX9_add_27 rfl ?_
    refine r_get (k := 1) (v := .int (σ2 b 1)) C hP (oW hfb) rfl iX9 (by decide) wm_t138 rfl rfl dX9_add_28 ?_
    refine lv_iconst (v := 1) hx hb dX9_add_31 (by decide) ?_
    refine lv_iadd hx hb dX9_add_32 ?_
    refine r_put (k := 1) (x := ((σ2 b 1) + 1)) C hP hS tyX9 tyX9_ok nmX9 (oW hfb) rfl iX9 (by decide) wm_t138 rfl rfl sW_1 rfl rfl (Nat.le_of_ble_eq_true rfl) dX9_add_33 (fun H locs hP hS => ?_)
    obtain ⟨σ4, eσ4, hf⟩ := nmS_e hf
    rw [← eσ4] at hP
    cases hf
    exact r_vret C hP hS dX9_add_36
def fX9_work_348 (b : Nat) (v : Nat) (σ : St) (x4 : Int32) : Option (Int32 × St) :=
(if x4 ≤ 2 then
some (0, σ)
else
(rdK 32 (σ (b + 6)) (x4 - 1) fun v2 =>
some (v2, σ)))
set_option maxHeartbeats 4000000 in
theorem b_fX9_work_348 {E : Ev} {l : Launch} {p : Program} {e : Env} {s : State} {m : MethodId} {args : Array Value} {below : List Frame} {meth : Method} {c : Code} {b : Nat} (hfb : fW b) {v : Nat} (hfv : fA v) (C : CX true E RX9 cX9_work 11 (some .int) p s m args meth c) {rr : Int32} {sr : St} : ∀ (σ : St) (x4 : Int32), fX9_work_348 b v σ x4 = some (rr, sr) → GW true l (rmD 1) E 11 p e s m args below meth c (MQ below (QI true E rr sr s.heap.size) args s 0 0 (aW true E s.heap.size)) σ 348 [(0, .ref (ea E b)), (4, .int x4)] [] := by
  intro σ x4 hf H locs ls hP hS hl
  obtain ⟨hx, hb, hr, hml, hown, hts, hlocks, hK, hX, hj⟩ := id C
  unfold fX9_work_348 at hf
  refine lv_iload hx hb dX9_work_348 (lv_at hl 1 rfl) ?_
  refine lv_iconst (v := 2) hx hb dX9_work_350 (by decide) ?_
  refine lv_icmp_le (tgt := 366) hx hb dX9_work_351 (by decide) (fun c1 => ?_) (fun c1 => ?_)
  · replace hf := it_t c1 hf
    refine lv_iconst (v := 0) hx hb dX9_work_366 (by decide) ?_
    cases hf
    exact r_iret C hP hS dX9_work_367
  · replace hf := it_f c1 hf
    refine lv_aload_n hx hb dX9_work_354 rfl (lv_at hl 0 rfl) ?_
    refine r_get (k := 7) (v := .ref (ea E (b + 6))) C hP (oW hfb) rfl iX9 (by decide) wm_t144 rfl rfl dX9_work_355 ?_
    refine lv_iload hx hb dX9_work_358 (lv_at hl 1 rfl) ?_
    refine lv_iconst (v := 1) hx hb dX9_work_360 (by decide) ?_
    refine lv_isub hx hb dX9_work_361 ?_
    have h3 := (rdK_e hf).1
    refine r_ald C hP (aW_6 hfb) h3 dX9_work_362 ?_
    refine lv_topi (fun v2 ev2 => ?_)
    replace hf := rdK_n ev2 hf
    refine lv_goto (tgt := 367) hx hb dX9_work_363 (by decide) ?_
    cases hf
    exact r_iret C hP hS dX9_work_367
def fX9_work_328 (b : Nat) (v : Nat) (rec6 : St → Int32 → Int32 → Int32 → Option (Int32 × St)) (σ : St) (x2 : Int32) (x5 : Int32) (x10 : Int32) (y0 : Int32) (y1 : Int32) : Option (Int32 × St) :=
(wrK 32 σ (b + 6) ((y1 + y0) - 1) x10 fun σ1 =>
rec6 σ1 x2 (y1 + y0) (x5 + 1))
set_option maxHeartbeats 4000000 in
theorem b_fX9_work_328 {E : Ev} {l : Launch} {p : Program} {e : Env} {s : State} {m : MethodId} {args : Array Value} {below : List Frame} {meth : Method} {c : Code} {b : Nat} (hfb : fW b) {v : Nat} (hfv : fA v) (C : CX true E RX9 cX9_work 11 (some .int) p s m args meth c) {rr : Int32} {sr : St} (rec6 : St → Int32 → Int32 → Int32 → Option (Int32 × St)) (hr6 : ∀ (σ : St) (x2 : Int32) (x4 : Int32) (x5 : Int32), rec6 σ x2 x4 x5 = some (rr, sr) → GW true l (rmD 1) E 11 p e s m args below meth c (MQ below (QI true E rr sr s.heap.size) args s 0 0 (aW true E s.heap.size)) σ 6 [(0, .ref (ea E b)), (2, .int x2), (3, .ref (ea E v)), (4, .int x4), (5, .int x5)] []) : ∀ (σ : St) (x2 : Int32) (x5 : Int32) (x10 : Int32) (y0 : Int32) (y1 : Int32), fX9_work_328 b v rec6 σ x2 x5 x10 y0 y1 = some (rr, sr) → GW true l (rmD 1) E 11 p e s m args below meth c (MQ below (QI true E rr sr s.heap.size) args s 0 0 (aW true E s.heap.size)) σ 328 [(0, .ref (ea E b)), (2, .int x2), (3, .ref (ea E v)), (5, .int x5), (10, .int x10)] [.int y0, .int y1] := by
  intro σ x2 x5 x10 y0 y1 hf H locs ls hP hS hl
  obtain ⟨hx, hb, hr, hml, hown, hts, hlocks, hK, hX, hj⟩ := id C
  unfold fX9_work_328 at hf
  refine lv_iadd hx hb dX9_work_328 ?_
  refine lv_istore (lv' := [(4, .int (y1 + y0)), (0, .ref (ea E b)), (2, .int x2), (3, .ref (ea E v)), (5, .int x5), (10, .int x10)]) hx hb dX9_work_329 hl (by decide) rfl (fun ls hl => ?_)
  refine lv_aload_n hx hb dX9_work_331 rfl (lv_at hl 1 rfl) ?_
  refine r_get (k := 7) (v := .ref (ea E (b + 6))) C hP (oW hfb) rfl iX9 (by decide) wm_t144 rfl rfl dX9_work_332 ?_
  refine lv_iload hx hb dX9_work_335 (lv_at hl 0 rfl) ?_
  refine lv_iconst (v := 1) hx hb dX9_work_337 (by decide) ?_
  refine lv_isub hx hb dX9_work_338 ?_
  refine lv_iload hx hb dX9_work_339 (lv_at hl 5 rfl) ?_
  obtain ⟨h2, σ1, eσ1, hf⟩ := wrK_e hf
  refine r_ast C hP hS (aW_6 hfb) h2 dX9_work_341 (fun H locs hP hS => ?_)
  rw [← eσ1] at hP
  refine lv_iinc (v := (x5 + 1)) (lv' := [(5, .int (x5 + 1)), (4, .int (y1 + y0)), (0, .ref (ea E b)), (2, .int x2), (3, .ref (ea E v)), (10, .int x10)]) hx hb dX9_work_342 hl (k := 4) rfl rfl (by decide) rfl (fun ls hl => ?_)
  refine lv_goto (tgt := 6) hx hb dX9_work_345 (by decide) ?_
  exact hr6 σ1 x2 (y1 + y0) (x5 + 1) hf H locs ls hP hS (lv_sub hl [2, 3, 4, 1, 0] rfl)
def fX9_work_305 (b : Nat) (v : Nat) (rec6 : St → Int32 → Int32 → Int32 → Option (Int32 × St)) (σ : St) (x2 : Int32) (x4 : Int32) (x5 : Int32) (x6 : Int32) (x10 : Int32) : Option (Int32 × St) :=
(if 1 < x6 then
(if 3 < x6 then
fX9_work_328 b v rec6 σ x2 x5 x10 (-1) x4
else
fX9_work_328 b v rec6 σ x2 x5 x10 0 x4)
else
fX9_work_328 b v rec6 σ x2 x5 x10 1 x4)
set_option maxHeartbeats 4000000 in
theorem b_fX9_work_305 {E : Ev} {l : Launch} {p : Program} {e : Env} {s : State} {m : MethodId} {args : Array Value} {below : List Frame} {meth : Method} {c : Code} {b : Nat} (hfb : fW b) {v : Nat} (hfv : fA v) (C : CX true E RX9 cX9_work 11 (some .int) p s m args meth c) {rr : Int32} {sr : St} (rec6 : St → Int32 → Int32 → Int32 → Option (Int32 × St)) (hr6 : ∀ (σ : St) (x2 : Int32) (x4 : Int32) (x5 : Int32), rec6 σ x2 x4 x5 = some (rr, sr) → GW true l (rmD 1) E 11 p e s m args below meth c (MQ below (QI true E rr sr s.heap.size) args s 0 0 (aW true E s.heap.size)) σ 6 [(0, .ref (ea E b)), (2, .int x2), (3, .ref (ea E v)), (4, .int x4), (5, .int x5)] []) : ∀ (σ : St) (x2 : Int32) (x4 : Int32) (x5 : Int32) (x6 : Int32) (x10 : Int32), fX9_work_305 b v rec6 σ x2 x4 x5 x6 x10 = some (rr, sr) → GW true l (rmD 1) E 11 p e s m args below meth c (MQ below (QI true E rr sr s.heap.size) args s 0 0 (aW true E s.heap.size)) σ 305 [(0, .ref (ea E b)), (2, .int x2), (3, .ref (ea E v)), (4, .int x4), (5, .int x5), (6, .int x6), (10, .int x10)] [] := by
  intro σ x2 x4 x5 x6 x10 hf H locs ls hP hS hl
  obtain ⟨hx, hb, hr, hml, hown, hts, hlocks, hK, hX, hj⟩ := id C
  unfold fX9_work_305 at hf
  refine lv_iload hx hb dX9_work_305 (lv_at hl 3 rfl) ?_
  refine lv_iload hx hb dX9_work_307 (lv_at hl 5 rfl) ?_
  refine lv_iconst (v := 1) hx hb dX9_work_309 (by decide) ?_
  refine lv_icmp_gt (tgt := 317) hx hb dX9_work_310 (by decide) (fun c1 => ?_) (fun c1 => ?_)
  · replace hf := it_t c1 hf
    refine lv_iload hx hb dX9_work_317 (lv_at hl 5 rfl) ?_
    refine lv_iconst (v := 3) hx hb dX9_work_319 (by decide) ?_
    refine lv_icmp_gt (tgt := 327) hx hb dX9_work_320 (by decide) (fun c2 => ?_) (fun c2 => ?_)
    · replace hf := it_t c2 hf
      refine lv_iconst (v := (-1)) hx hb dX9_work_327 (by decide) ?_
      exact b_fX9_work_328 hfb hfv C rec6 hr6 σ x2 x5 x10 (-1) x4 hf H locs ls hP hS (lv_sub hl [0, 1, 2, 4, 6] rfl)
    · replace hf := it_f c2 hf
      refine lv_iconst (v := 0) hx hb dX9_work_323 (by decide) ?_
      refine lv_goto (tgt := 328) hx hb dX9_work_324 (by decide) ?_
      exact b_fX9_work_328 hfb hfv C rec6 hr6 σ x2 x5 x10 0 x4 hf H locs ls hP hS (lv_sub hl [0, 1, 2, 4, 6] rfl)
  · replace hf := it_f c1 hf
    refine lv_iconst (v := 1) hx hb dX9_work_313 (by decide) ?_
    refine lv_goto (tgt := 328) hx hb dX9_work_314 (by decide) ?_
    exact b_fX9_work_328 hfb hfv C rec6 hr6 σ x2 x5 x10 1 x4 hf H locs ls hP hS (lv_sub hl [0, 1, 2, 4, 6] rfl)
def fX9_work_6B (b : Nat) (v : Nat) (rec6 : St → Int32 → Int32 → Int32 → Option (Int32 × St)) (σ : St) (x2 : Int32) (x4 : Int32) (x5 : Int32) : Option (Int32 × St) :=
(if x2 ≤ x5 then
fX9_work_348 b v σ x4
else
(if 600 ≤ x5 then
fX9_work_348 b v σ x4
else
(if x5 < 0 then
some (0, σ)
else
(if x4 < 2 then
some (0, σ)
else
(if x4 < 32 then
(rdK 600 (σ (b + 1)) x5 fun v6 =>
(rdK 600 (σ (b + 1)) x5 fun v8 =>
(rdK 32 (σ (b + 6)) (x4 - 2) fun v10 =>
(rdK 32 (σ (b + 6)) (x4 - 1) fun v12 =>
(if (v6 / 16384) = 0 then
fX9_work_305 b v rec6 σ x2 x4 x5 (v6 / 16384) (v8 - v8 / 16384 * 16384)
else
(if (v6 / 16384) = 1 then
(if (nI (aaN v)) ≤ (v8 - v8 / 16384 * 16384) then
fX9_work_305 b v rec6 σ x2 x4 x5 (v6 / 16384) 0
else
(rdK (aaN v) (σ v) (v8 - v8 / 16384 * 16384) fun v17 =>
fX9_work_305 b v rec6 σ x2 x4 x5 (v6 / 16384) v17))
else
(if (v6 / 16384) = 2 then
(if (v8 - v8 / 16384 * 16384) = 0 then
fX9_work_305 b v rec6 σ x2 x4 x5 (v6 / 16384) 0
else
(nz (v8 - v8 / 16384 * 16384) (
fX9_work_305 b v rec6 σ x2 x4 x5 (v6 / 16384) (v12 / (v8 - v8 / 16384 * 16384)))))
else
(if (v6 / 16384) = 3 then
fX9_work_305 b v rec6 σ x2 x4 x5 (v6 / 16384) (1 - v12)
else
(if (v6 / 16384) = 4 then
fX9_work_305 b v rec6 σ x2 x4 x5 (v6 / 16384) (v10 + v12)
else
(if (v6 / 16384) = 5 then
fX9_work_305 b v rec6 σ x2 x4 x5 (v6 / 16384) (v10 - v12)
else
(if (v6 / 16384) = 6 then
fX9_work_305 b v rec6 σ x2 x4 x5 (v6 / 16384) (v10 * v12)
else
(if (v6 / 16384) = 7 then
(if v12 ≤ v10 then
fX9_work_305 b v rec6 σ x2 x4 x5 (v6 / 16384) 0
else
fX9_work_305 b v rec6 σ x2 x4 x5 (v6 / 16384) 1)
else
(if (v6 / 16384) = 8 then
(if v10 = v12 then
fX9_work_305 b v rec6 σ x2 x4 x5 (v6 / 16384) 1
else
fX9_work_305 b v rec6 σ x2 x4 x5 (v6 / 16384) 0)
else
(if (v6 / 16384) = 9 then
(if v10 ≤ v12 then
fX9_work_305 b v rec6 σ x2 x4 x5 (v6 / 16384) 0
else
fX9_work_305 b v rec6 σ x2 x4 x5 (v6 / 16384) 1)
else
(if (v6 / 16384) = 10 then
fX9_work_305 b v rec6 σ x2 x4 x5 (v6 / 16384) (v10 &&& v12)
else
fX9_work_305 b v rec6 σ x2 x4 x5 (v6 / 16384) (v10 ||| v12))))))))))))))))
else
some (0, σ))))))
set_option maxHeartbeats 4000000 in
theorem b_fX9_work_6B {E : Ev} {l : Launch} {p : Program} {e : Env} {s : State} {m : MethodId} {args : Array Value} {below : List Frame} {meth : Method} {c : Code} {b : Nat} (hfb : fW b) {v : Nat} (hfv : fA v) (C : CX true E RX9 cX9_work 11 (some .int) p s m args meth c) {rr : Int32} {sr : St} (rec6 : St → Int32 → Int32 → Int32 → Option (Int32 × St)) (hr6 : ∀ (σ : St) (x2 : Int32) (x4 : Int32) (x5 : Int32), rec6 σ x2 x4 x5 = some (rr, sr) → GW true l (rmD 1) E 11 p e s m args below meth c (MQ below (QI true E rr sr s.heap.size) args s 0 0 (aW true E s.heap.size)) σ 6 [(0, .ref (ea E b)), (2, .int x2), (3, .ref (ea E v)), (4, .int x4), (5, .int x5)] []) : ∀ (σ : St) (x2 : Int32) (x4 : Int32) (x5 : Int32), fX9_work_6B b v rec6 σ x2 x4 x5 = some (rr, sr) → GW true l (rmD 1) E 11 p e s m args below meth c (MQ below (QI true E rr sr s.heap.size) args s 0 0 (aW true E s.heap.size)) σ 6 [(0, .ref (ea E b)), (2, .int x2), (3, .ref (ea E v)), (4, .int x4), (5, .int x5)] [] := by
  intro σ x2 x4 x5 hf H locs ls hP hS hl
  obtain ⟨hx, hb, hr, hml, hown, hts, hlocks, hK, hX, hj⟩ := id C
  unfold fX9_work_6B at hf
  refine lv_iload hx hb dX9_work_6 (lv_at hl 4 rfl) ?_
  refine lv_iload_n hx hb dX9_work_8 rfl (lv_at hl 1 rfl) ?_
  refine lv_icmp_ge (tgt := 348) hx hb dX9_work_9 (by decide) (fun c1 => ?_) (fun c1 => ?_)
  · replace hf := it_t c1 hf
    exact b_fX9_work_348 hfb hfv C σ x4 hf H locs ls hP hS (lv_sub hl [0, 3] rfl)
  · replace hf := it_f c1 hf
    refine lv_iload hx hb dX9_work_12 (lv_at hl 4 rfl) ?_
    refine lv_sipush (v := 600) hx hb dX9_work_14 (by decide) ?_
    refine lv_icmp_ge (tgt := 348) hx hb dX9_work_17 (by decide) (fun c2 => ?_) (fun c2 => ?_)
    · replace hf := it_t c2 hf
      exact b_fX9_work_348 hfb hfv C σ x4 hf H locs ls hP hS (lv_sub hl [0, 3] rfl)
    · replace hf := it_f c2 hf
      refine lv_iload hx hb dX9_work_20 (lv_at hl 4 rfl) ?_
      refine lv_if_lt (tgt := 38) hx hb dX9_work_22 (by decide) (fun c3 => ?_) (fun c3 => ?_)
      · replace hf := it_t c3 hf
        refine lv_iconst (v := 0) hx hb dX9_work_38 (by decide) ?_
        cases hf
        exact r_iret C hP hS dX9_work_39
      · replace hf := it_f c3 hf
        refine lv_iload hx hb dX9_work_25 (lv_at hl 3 rfl) ?_
        refine lv_iconst (v := 2) hx hb dX9_work_27 (by decide) ?_
        refine lv_icmp_lt (tgt := 38) hx hb dX9_work_28 (by decide) (fun c4 => ?_) (fun c4 => ?_)
        · replace hf := it_t c4 hf
          refine lv_iconst (v := 0) hx hb dX9_work_38 (by decide) ?_
          cases hf
          exact r_iret C hP hS dX9_work_39
        · replace hf := it_f c4 hf
          refine lv_iload hx hb dX9_work_31 (lv_at hl 3 rfl) ?_
          refine lv_bipush (v := 32) hx hb dX9_work_33 (by decide) ?_
          refine lv_icmp_lt (tgt := 40) hx hb dX9_work_35 (by decide) (fun c5 => ?_) (fun c5 => ?_)
          · replace hf := it_t c5 hf
            refine lv_aload_n hx hb dX9_work_40 rfl (lv_at hl 0 rfl) ?_
            refine r_get (k := 2) (v := .ref (ea E (b + 1))) C hP (oW hfb) rfl iX9 (by decide) wm_t139 rfl rfl dX9_work_41 ?_
            refine lv_iload hx hb dX9_work_44 (lv_at hl 4 rfl) ?_
            have h7 := (rdK_e hf).1
            refine r_ald C hP (aW_1 hfb) h7 dX9_work_46 ?_
            refine lv_topi (fun v6 ev6 => ?_)
            replace hf := rdK_n ev6 hf
            refine lv_sipush (v := 16384) hx hb dX9_work_47 (by decide) ?_
            refine lv_idiv hx hb dX9_work_50 (by decide) ?_
            refine lv_istore (lv' := [(6, .int (v6 / 16384)), (0, .ref (ea E b)), (2, .int x2), (3, .ref (ea E v)), (4, .int x4), (5, .int x5)]) hx hb dX9_work_51 hl (by decide) rfl (fun ls hl => ?_)
            refine lv_aload_n hx hb dX9_work_53 rfl (lv_at hl 1 rfl) ?_
            refine r_get (k := 2) (v := .ref (ea E (b + 1))) C hP (oW hfb) rfl iX9 (by decide) wm_t139 rfl rfl dX9_work_54 ?_
            refine lv_iload hx hb dX9_work_57 (lv_at hl 5 rfl) ?_
            have h9 := (rdK_e hf).1
            refine r_ald C hP (aW_1 hfb) h9 dX9_work_59 ?_
            refine lv_topi (fun v8 ev8 => ?_)
            replace hf := rdK_n ev8 hf
            refine lv_sipush (v := 16384) hx hb dX9_work_60 (by decide) ?_
            refine lv_irem hx hb dX9_work_63 (by decide) ?_
            refine lv_istore (lv' := [(7, .int (v8 - v8 / 16384 * 16384)), (6, .int (v6 / 16384)), (0, .ref (ea E b)), (2, .int x2), (3, .ref (ea E v)), (4, .int x4), (5, .int x5)]) hx hb dX9_work_64 hl (by decide) rfl (fun ls hl => ?_)
            refine lv_aload_n hx hb dX9_work_66 rfl (lv_at hl 2 rfl) ?_
            refine r_get (k := 7) (v := .ref (ea E (b + 6))) C hP (oW hfb) rfl iX9 (by decide) wm_t144 rfl rfl dX9_work_67 ?_
            refine lv_iload hx hb dX9_work_70 (lv_at hl 5 rfl) ?_
            refine lv_iconst (v := 2) hx hb dX9_work_72 (by decide) ?_
            refine lv_isub hx hb dX9_work_73 ?_
            have h11 := (rdK_e hf).1
            refine r_ald C hP (aW_6 hfb) h11 dX9_work_74 ?_
            refine lv_topi (fun v10 ev10 => ?_)
            replace hf := rdK_n ev10 hf
            refine lv_istore (lv' := [(8, .int v10), (7, .int (v8 - v8 / 16384 * 16384)), (6, .int (v6 / 16384)), (0, .ref (ea E b)), (2, .int x2), (3, .ref (ea E v)), (4, .int x4), (5, .int x5)]) hx hb dX9_work_75 hl (by decide) rfl (fun ls hl => ?_)
            refine lv_aload_n hx hb dX9_work_77 rfl (lv_at hl 3 rfl) ?_
            refine r_get (k := 7) (v := .ref (ea E (b + 6))) C hP (oW hfb) rfl iX9 (by decide) wm_t144 rfl rfl dX9_work_78 ?_
            refine lv_iload hx hb dX9_work_81 (lv_at hl 6 rfl) ?_
            refine lv_iconst (v := 1) hx hb dX9_work_83 (by decide) ?_
            refine lv_isub hx hb dX9_work_84 ?_
            have h13 := (rdK_e hf).1
            refine r_ald C hP (aW_6 hfb) h13 dX9_work_85 ?_
            refine lv_topi (fun v12 ev12 => ?_)
            replace hf := rdK_n ev12 hf
            refine lv_istore (lv' := [(9, .int v12), (8, .int v10), (7, .int (v8 - v8 / 16384 * 16384)), (6, .int (v6 / 16384)), (0, .ref (ea E b)), (2, .int x2), (3, .ref (ea E v)), (4, .int x4), (5, .int x5)]) hx hb dX9_work_86 hl (by decide) rfl (fun ls hl => ?_)
            refine lv_iconst (v := 0) hx hb dX9_work_88 (by decide) ?_
            refine lv_istore (lv' := [(10, .int 0), (9, .int v12), (8, .int v10), (7, .int (v8 - v8 / 16384 * 16384)), (6, .int (v6 / 16384)), (0, .ref (ea E b)), (2, .int x2), (3, .ref (ea E v)), (4, .int x4), (5, .int x5)]) hx hb dX9_work_89 hl (by decide) rfl (fun ls hl => ?_)
            refine lv_iload hx hb dX9_work_91 (lv_at hl 4 rfl) ?_
            by_cases c14 : (v6 / 16384) = 0
            · replace hf := it_t c14 hf
              refine lv_tableIn (tgt := 152) hx hb dX9_work_93 (by rw [c14]; decide) (by rw [c14]; decide) (by rw [c14]; rfl) (by decide) ?_
              refine lv_iload hx hb dX9_work_152 (lv_at hl 3 rfl) ?_
              refine lv_istore (lv' := [(10, .int (v8 - v8 / 16384 * 16384)), (9, .int v12), (8, .int v10), (7, .int (v8 - v8 / 16384 * 16384)), (6, .int (v6 / 16384)), (0, .ref (ea E b)), (2, .int x2), (3, .ref (ea E v)), (4, .int x4), (5, .int x5)]) hx hb dX9_work_154 hl (by decide) rfl (fun ls hl => ?_)
              refine lv_goto (tgt := 305) hx hb dX9_work_156 (by decide) ?_
              exact b_fX9_work_305 hfb hfv C rec6 hr6 σ x2 x4 x5 (v6 / 16384) (v8 - v8 / 16384 * 16384) hf H locs ls hP hS (lv_sub hl [5, 6, 7, 8, 9, 4, 0] rfl)
            · replace hf := it_f c14 hf
              by_cases c15 : (v6 / 16384) = 1
              · replace hf := it_t c15 hf
                refine lv_tableIn (tgt := 159) hx hb dX9_work_93 (by rw [c15]; decide) (by rw [c15]; decide) (by rw [c15]; rfl) (by decide) ?_
                refine lv_iload hx hb dX9_work_159 (lv_at hl 3 rfl) ?_
                refine lv_aload_n hx hb dX9_work_161 rfl (lv_at hl 7 rfl) ?_
                refine r_alen (v := (nI (aaN v))) C hP (aAA hfv) rfl dX9_work_162 ?_
                refine lv_icmp_ge (tgt := 173) hx hb dX9_work_163 (by decide) (fun c16 => ?_) (fun c16 => ?_)
                · replace hf := it_t c16 hf
                  refine lv_iconst (v := 0) hx hb dX9_work_173 (by decide) ?_
                  refine lv_istore (lv' := [(10, .int 0), (9, .int v12), (8, .int v10), (7, .int (v8 - v8 / 16384 * 16384)), (6, .int (v6 / 16384)), (0, .ref (ea E b)), (2, .int x2), (3, .ref (ea E v)), (4, .int x4), (5, .int x5)]) hx hb dX9_work_174 hl (by decide) rfl (fun ls hl => ?_)
                  refine lv_goto (tgt := 305) hx hb dX9_work_176 (by decide) ?_
                  exact b_fX9_work_305 hfb hfv C rec6 hr6 σ x2 x4 x5 (v6 / 16384) 0 hf H locs ls hP hS (lv_sub hl [5, 6, 7, 8, 9, 4, 0] rfl)
                · replace hf := it_f c16 hf
                  refine lv_aload_n hx hb dX9_work_166 rfl (lv_at hl 7 rfl) ?_
                  refine lv_iload hx hb dX9_work_167 (lv_at hl 3 rfl) ?_
                  have h18 := (rdK_e hf).1
                  refine r_ald C hP (aAA hfv) h18 dX9_work_169 ?_
                  refine lv_topi (fun v17 ev17 => ?_)
                  replace hf := rdK_n ev17 hf
                  refine lv_goto (tgt := 174) hx hb dX9_work_170 (by decide) ?_
                  refine lv_istore (lv' := [(10, .int v17), (9, .int v12), (8, .int v10), (7, .int (v8 - v8 / 16384 * 16384)), (6, .int (v6 / 16384)), (0, .ref (ea E b)), (2, .int x2), (3, .ref (ea E v)), (4, .int x4), (5, .int x5)]) hx hb dX9_work_174 hl (by decide) rfl (fun ls hl => ?_)
                  refine lv_goto (tgt := 305) hx hb dX9_work_176 (by decide) ?_
                  exact b_fX9_work_305 hfb hfv C rec6 hr6 σ x2 x4 x5 (v6 / 16384) v17 hf H locs ls hP hS (lv_sub hl [5, 6, 7, 8, 9, 4, 0] rfl)
              · replace hf := it_f c15 hf
                by_cases c19 : (v6 / 16384) = 2
                · replace hf := it_t c19 hf
                  refine lv_tableIn (tgt := 179) hx hb dX9_work_93 (by rw [c19]; decide) (by rw [c19]; decide) (by rw [c19]; rfl) (by decide) ?_
                  refine lv_iload hx hb dX9_work_179 (lv_at hl 3 rfl) ?_
                  refine lv_if_ne (tgt := 188) hx hb dX9_work_181 (by decide) (fun c20 => ?_) (fun c20 => ?_)
                  · replace hf := it_f c20 hf
                    refine lv_iload hx hb dX9_work_188 (lv_at hl 1 rfl) ?_
                    refine lv_iload hx hb dX9_work_190 (lv_at hl 3 rfl) ?_
                    obtain ⟨h21, hf⟩ := nz_e hf
                    refine lv_idiv hx hb dX9_work_192 h21 ?_
                    refine lv_istore (lv' := [(10, .int (v12 / (v8 - v8 / 16384 * 16384))), (9, .int v12), (8, .int v10), (7, .int (v8 - v8 / 16384 * 16384)), (6, .int (v6 / 16384)), (0, .ref (ea E b)), (2, .int x2), (3, .ref (ea E v)), (4, .int x4), (5, .int x5)]) hx hb dX9_work_193 hl (by decide) rfl (fun ls hl => ?_)
                    refine lv_goto (tgt := 305) hx hb dX9_work_195 (by decide) ?_
                    exact b_fX9_work_305 hfb hfv C rec6 hr6 σ x2 x4 x5 (v6 / 16384) (v12 / (v8 - v8 / 16384 * 16384)) hf H locs ls hP hS (lv_sub hl [5, 6, 7, 8, 9, 4, 0] rfl)
                  · replace hf := it_t c20 hf
                    refine lv_iconst (v := 0) hx hb dX9_work_184 (by decide) ?_
                    refine lv_goto (tgt := 193) hx hb dX9_work_185 (by decide) ?_
                    refine lv_istore (lv' := [(10, .int 0), (9, .int v12), (8, .int v10), (7, .int (v8 - v8 / 16384 * 16384)), (6, .int (v6 / 16384)), (0, .ref (ea E b)), (2, .int x2), (3, .ref (ea E v)), (4, .int x4), (5, .int x5)]) hx hb dX9_work_193 hl (by decide) rfl (fun ls hl => ?_)
                    refine lv_goto (tgt := 305) hx hb dX9_work_195 (by decide) ?_
                    exact b_fX9_work_305 hfb hfv C rec6 hr6 σ x2 x4 x5 (v6 / 16384) 0 hf H locs ls hP hS (lv_sub hl [5, 6, 7, 8, 9, 4, 0] rfl)
                · replace hf := it_f c19 hf
                  by_cases c22 : (v6 / 16384) = 3
                  · replace hf := it_t c22 hf
                    refine lv_tableIn (tgt := 198) hx hb dX9_work_93 (by rw [c22]; decide) (by rw [c22]; decide) (by rw [c22]; rfl) (by decide) ?_
                    refine lv_iconst (v := 1) hx hb dX9_work_198 (by decide) ?_
                    refine lv_iload hx hb dX9_work_199 (lv_at hl 1 rfl) ?_
                    refine lv_isub hx hb dX9_work_201 ?_
                    refine lv_istore (lv' := [(10, .int (1 - v12)), (9, .int v12), (8, .int v10), (7, .int (v8 - v8 / 16384 * 16384)), (6, .int (v6 / 16384)), (0, .ref (ea E b)), (2, .int x2), (3, .ref (ea E v)), (4, .int x4), (5, .int x5)]) hx hb dX9_work_202 hl (by decide) rfl (fun ls hl => ?_)
                    refine lv_goto (tgt := 305) hx hb dX9_work_204 (by decide) ?_
                    exact b_fX9_work_305 hfb hfv C rec6 hr6 σ x2 x4 x5 (v6 / 16384) (1 - v12) hf H locs ls hP hS (lv_sub hl [5, 6, 7, 8, 9, 4, 0] rfl)
                  · replace hf := it_f c22 hf
                    by_cases c23 : (v6 / 16384) = 4
                    · replace hf := it_t c23 hf
                      refine lv_tableIn (tgt := 207) hx hb dX9_work_93 (by rw [c23]; decide) (by rw [c23]; decide) (by rw [c23]; rfl) (by decide) ?_
                      refine lv_iload hx hb dX9_work_207 (lv_at hl 2 rfl) ?_
                      refine lv_iload hx hb dX9_work_209 (lv_at hl 1 rfl) ?_
                      refine lv_iadd hx hb dX9_work_211 ?_
                      refine lv_istore (lv' := [(10, .int (v10 + v12)), (9, .int v12), (8, .int v10), (7, .int (v8 - v8 / 16384 * 16384)), (6, .int (v6 / 16384)), (0, .ref (ea E b)), (2, .int x2), (3, .ref (ea E v)), (4, .int x4), (5, .int x5)]) hx hb dX9_work_212 hl (by decide) rfl (fun ls hl => ?_)
                      refine lv_goto (tgt := 305) hx hb dX9_work_214 (by decide) ?_
                      exact b_fX9_work_305 hfb hfv C rec6 hr6 σ x2 x4 x5 (v6 / 16384) (v10 + v12) hf H locs ls hP hS (lv_sub hl [5, 6, 7, 8, 9, 4, 0] rfl)
                    · replace hf := it_f c23 hf
                      by_cases c24 : (v6 / 16384) = 5
                      · replace hf := it_t c24 hf
                        refine lv_tableIn (tgt := 217) hx hb dX9_work_93 (by rw [c24]; decide) (by rw [c24]; decide) (by rw [c24]; rfl) (by decide) ?_
                        refine lv_iload hx hb dX9_work_217 (lv_at hl 2 rfl) ?_
                        refine lv_iload hx hb dX9_work_219 (lv_at hl 1 rfl) ?_
                        refine lv_isub hx hb dX9_work_221 ?_
                        refine lv_istore (lv' := [(10, .int (v10 - v12)), (9, .int v12), (8, .int v10), (7, .int (v8 - v8 / 16384 * 16384)), (6, .int (v6 / 16384)), (0, .ref (ea E b)), (2, .int x2), (3, .ref (ea E v)), (4, .int x4), (5, .int x5)]) hx hb dX9_work_222 hl (by decide) rfl (fun ls hl => ?_)
                        refine lv_goto (tgt := 305) hx hb dX9_work_224 (by decide) ?_
                        exact b_fX9_work_305 hfb hfv C rec6 hr6 σ x2 x4 x5 (v6 / 16384) (v10 - v12) hf H locs ls hP hS (lv_sub hl [5, 6, 7, 8, 9, 4, 0] rfl)
                      · replace hf := it_f c24 hf
                        by_cases c25 : (v6 / 16384) = 6
                        · replace hf := it_t c25 hf
                          refine lv_tableIn (tgt := 227) hx hb dX9_work_93 (by rw [c25]; decide) (by rw [c25]; decide) (by rw [c25]; rfl) (by decide) ?_
                          refine lv_iload hx hb dX9_work_227 (lv_at hl 2 rfl) ?_
                          refine lv_iload hx hb dX9_work_229 (lv_at hl 1 rfl) ?_
                          refine lv_imul hx hb dX9_work_231 ?_
                          refine lv_istore (lv' := [(10, .int (v10 * v12)), (9, .int v12), (8, .int v10), (7, .int (v8 - v8 / 16384 * 16384)), (6, .int (v6 / 16384)), (0, .ref (ea E b)), (2, .int x2), (3, .ref (ea E v)), (4, .int x4), (5, .int x5)]) hx hb dX9_work_232 hl (by decide) rfl (fun ls hl => ?_)
                          refine lv_goto (tgt := 305) hx hb dX9_work_234 (by decide) ?_
                          exact b_fX9_work_305 hfb hfv C rec6 hr6 σ x2 x4 x5 (v6 / 16384) (v10 * v12) hf H locs ls hP hS (lv_sub hl [5, 6, 7, 8, 9, 4, 0] rfl)
                        · replace hf := it_f c25 hf
                          by_cases c26 : (v6 / 16384) = 7
                          · replace hf := it_t c26 hf
                            refine lv_tableIn (tgt := 237) hx hb dX9_work_93 (by rw [c26]; decide) (by rw [c26]; decide) (by rw [c26]; rfl) (by decide) ?_
                            refine lv_iload hx hb dX9_work_237 (lv_at hl 2 rfl) ?_
                            refine lv_iload hx hb dX9_work_239 (lv_at hl 1 rfl) ?_
                            refine lv_icmp_ge (tgt := 248) hx hb dX9_work_241 (by decide) (fun c27 => ?_) (fun c27 => ?_)
                            · replace hf := it_t c27 hf
                              refine lv_iconst (v := 0) hx hb dX9_work_248 (by decide) ?_
                              refine lv_istore (lv' := [(10, .int 0), (9, .int v12), (8, .int v10), (7, .int (v8 - v8 / 16384 * 16384)), (6, .int (v6 / 16384)), (0, .ref (ea E b)), (2, .int x2), (3, .ref (ea E v)), (4, .int x4), (5, .int x5)]) hx hb dX9_work_249 hl (by decide) rfl (fun ls hl => ?_)
                              refine lv_goto (tgt := 305) hx hb dX9_work_251 (by decide) ?_
                              exact b_fX9_work_305 hfb hfv C rec6 hr6 σ x2 x4 x5 (v6 / 16384) 0 hf H locs ls hP hS (lv_sub hl [5, 6, 7, 8, 9, 4, 0] rfl)
                            · replace hf := it_f c27 hf
                              refine lv_iconst (v := 1) hx hb dX9_work_244 (by decide) ?_
                              refine lv_goto (tgt := 249) hx hb dX9_work_245 (by decide) ?_
                              refine lv_istore (lv' := [(10, .int 1), (9, .int v12), (8, .int v10), (7, .int (v8 - v8 / 16384 * 16384)), (6, .int (v6 / 16384)), (0, .ref (ea E b)), (2, .int x2), (3, .ref (ea E v)), (4, .int x4), (5, .int x5)]) hx hb dX9_work_249 hl (by decide) rfl (fun ls hl => ?_)
                              refine lv_goto (tgt := 305) hx hb dX9_work_251 (by decide) ?_
                              exact b_fX9_work_305 hfb hfv C rec6 hr6 σ x2 x4 x5 (v6 / 16384) 1 hf H locs ls hP hS (lv_sub hl [5, 6, 7, 8, 9, 4, 0] rfl)
                          · replace hf := it_f c26 hf
                            by_cases c28 : (v6 / 16384) = 8
                            · replace hf := it_t c28 hf
                              refine lv_tableIn (tgt := 254) hx hb dX9_work_93 (by rw [c28]; decide) (by rw [c28]; decide) (by rw [c28]; rfl) (by decide) ?_
                              refine lv_iload hx hb dX9_work_254 (lv_at hl 2 rfl) ?_
                              refine lv_iload hx hb dX9_work_256 (lv_at hl 1 rfl) ?_
                              refine lv_icmp_ne (tgt := 265) hx hb dX9_work_258 (by decide) (fun c29 => ?_) (fun c29 => ?_)
                              · replace hf := it_f c29 hf
                                refine lv_iconst (v := 0) hx hb dX9_work_265 (by decide) ?_
                                refine lv_istore (lv' := [(10, .int 0), (9, .int v12), (8, .int v10), (7, .int (v8 - v8 / 16384 * 16384)), (6, .int (v6 / 16384)), (0, .ref (ea E b)), (2, .int x2), (3, .ref (ea E v)), (4, .int x4), (5, .int x5)]) hx hb dX9_work_266 hl (by decide) rfl (fun ls hl => ?_)
                                refine lv_goto (tgt := 305) hx hb dX9_work_268 (by decide) ?_
                                exact b_fX9_work_305 hfb hfv C rec6 hr6 σ x2 x4 x5 (v6 / 16384) 0 hf H locs ls hP hS (lv_sub hl [5, 6, 7, 8, 9, 4, 0] rfl)
                              · replace hf := it_t c29 hf
                                refine lv_iconst (v := 1) hx hb dX9_work_261 (by decide) ?_
                                refine lv_goto (tgt := 266) hx hb dX9_work_262 (by decide) ?_
                                refine lv_istore (lv' := [(10, .int 1), (9, .int v12), (8, .int v10), (7, .int (v8 - v8 / 16384 * 16384)), (6, .int (v6 / 16384)), (0, .ref (ea E b)), (2, .int x2), (3, .ref (ea E v)), (4, .int x4), (5, .int x5)]) hx hb dX9_work_266 hl (by decide) rfl (fun ls hl => ?_)
                                refine lv_goto (tgt := 305) hx hb dX9_work_268 (by decide) ?_
                                exact b_fX9_work_305 hfb hfv C rec6 hr6 σ x2 x4 x5 (v6 / 16384) 1 hf H locs ls hP hS (lv_sub hl [5, 6, 7, 8, 9, 4, 0] rfl)
                            · replace hf := it_f c28 hf
                              by_cases c30 : (v6 / 16384) = 9
                              · replace hf := it_t c30 hf
                                refine lv_tableIn (tgt := 271) hx hb dX9_work_93 (by rw [c30]; decide) (by rw [c30]; decide) (by rw [c30]; rfl) (by decide) ?_
                                refine lv_iload hx hb dX9_work_271 (lv_at hl 2 rfl) ?_
                                refine lv_iload hx hb dX9_work_273 (lv_at hl 1 rfl) ?_
                                refine lv_icmp_le (tgt := 282) hx hb dX9_work_275 (by decide) (fun c31 => ?_) (fun c31 => ?_)
                                · replace hf := it_t c31 hf
                                  refine lv_iconst (v := 0) hx hb dX9_work_282 (by decide) ?_
                                  refine lv_istore (lv' := [(10, .int 0), (9, .int v12), (8, .int v10), (7, .int (v8 - v8 / 16384 * 16384)), (6, .int (v6 / 16384)), (0, .ref (ea E b)), (2, .int x2), (3, .ref (ea E v)), (4, .int x4), (5, .int x5)]) hx hb dX9_work_283 hl (by decide) rfl (fun ls hl => ?_)
                                  refine lv_goto (tgt := 305) hx hb dX9_work_285 (by decide) ?_
                                  exact b_fX9_work_305 hfb hfv C rec6 hr6 σ x2 x4 x5 (v6 / 16384) 0 hf H locs ls hP hS (lv_sub hl [5, 6, 7, 8, 9, 4, 0] rfl)
                                · replace hf := it_f c31 hf
                                  refine lv_iconst (v := 1) hx hb dX9_work_278 (by decide) ?_
                                  refine lv_goto (tgt := 283) hx hb dX9_work_279 (by decide) ?_
                                  refine lv_istore (lv' := [(10, .int 1), (9, .int v12), (8, .int v10), (7, .int (v8 - v8 / 16384 * 16384)), (6, .int (v6 / 16384)), (0, .ref (ea E b)), (2, .int x2), (3, .ref (ea E v)), (4, .int x4), (5, .int x5)]) hx hb dX9_work_283 hl (by decide) rfl (fun ls hl => ?_)
                                  refine lv_goto (tgt := 305) hx hb dX9_work_285 (by decide) ?_
                                  exact b_fX9_work_305 hfb hfv C rec6 hr6 σ x2 x4 x5 (v6 / 16384) 1 hf H locs ls hP hS (lv_sub hl [5, 6, 7, 8, 9, 4, 0] rfl)
                              · replace hf := it_f c30 hf
                                by_cases c32 : (v6 / 16384) = 10
                                · replace hf := it_t c32 hf
                                  refine lv_tableIn (tgt := 288) hx hb dX9_work_93 (by rw [c32]; decide) (by rw [c32]; decide) (by rw [c32]; rfl) (by decide) ?_
                                  refine lv_iload hx hb dX9_work_288 (lv_at hl 2 rfl) ?_
                                  refine lv_iload hx hb dX9_work_290 (lv_at hl 1 rfl) ?_
                                  refine lv_iand hx hb dX9_work_292 ?_
                                  refine lv_istore (lv' := [(10, .int (v10 &&& v12)), (9, .int v12), (8, .int v10), (7, .int (v8 - v8 / 16384 * 16384)), (6, .int (v6 / 16384)), (0, .ref (ea E b)), (2, .int x2), (3, .ref (ea E v)), (4, .int x4), (5, .int x5)]) hx hb dX9_work_293 hl (by decide) rfl (fun ls hl => ?_)
                                  refine lv_goto (tgt := 305) hx hb dX9_work_295 (by decide) ?_
                                  exact b_fX9_work_305 hfb hfv C rec6 hr6 σ x2 x4 x5 (v6 / 16384) (v10 &&& v12) hf H locs ls hP hS (lv_sub hl [5, 6, 7, 8, 9, 4, 0] rfl)
                                · replace hf := it_f c32 hf
                                  have nc14 := lv_neT (a := 0) c14 (by decide)
                                  have nc15 := lv_neT (a := 1) c15 (by decide)
                                  have nc19 := lv_neT (a := 2) c19 (by decide)
                                  have nc22 := lv_neT (a := 3) c22 (by decide)
                                  have nc23 := lv_neT (a := 4) c23 (by decide)
                                  have nc24 := lv_neT (a := 5) c24 (by decide)
                                  have nc25 := lv_neT (a := 6) c25 (by decide)
                                  have nc26 := lv_neT (a := 7) c26 (by decide)
                                  have nc28 := lv_neT (a := 8) c28 (by decide)
                                  have nc30 := lv_neT (a := 9) c30 (by decide)
                                  have nc32 := lv_neT (a := 10) c32 (by decide)
                                  refine lv_tableOut (tgt := 298) hx hb dX9_work_93 (by omega) (by decide) ?_
                                  refine lv_iload hx hb dX9_work_298 (lv_at hl 2 rfl) ?_
                                  refine lv_iload hx hb dX9_work_300 (lv_at hl 1 rfl) ?_
                                  refine lv_ior hx hb dX9_work_302 ?_
                                  refine lv_istore (lv' := [(10, .int (v10 ||| v12)), (9, .int v12), (8, .int v10), (7, .int (v8 - v8 / 16384 * 16384)), (6, .int (v6 / 16384)), (0, .ref (ea E b)), (2, .int x2), (3, .ref (ea E v)), (4, .int x4), (5, .int x5)]) hx hb dX9_work_303 hl (by decide) rfl (fun ls hl => ?_)
                                  exact b_fX9_work_305 hfb hfv C rec6 hr6 σ x2 x4 x5 (v6 / 16384) (v10 ||| v12) hf H locs ls hP hS (lv_sub hl [5, 6, 7, 8, 9, 4, 0] rfl)
          · replace hf := it_f c5 hf
            refine lv_iconst (v := 0) hx hb dX9_work_38 (by decide) ?_
            cases hf
            exact r_iret C hP hS dX9_work_39
def fX9_work_6 (b : Nat) (v : Nat) : Nat → St → Int32 → Int32 → Int32 → Option (Int32 × St)
  | 0 => fun _ _ _ _ => none
  | n + 1 => fun σ x2 x4 x5 => fX9_work_6B b v (fX9_work_6 b v n) σ x2 x4 x5
theorem b_fX9_work_6 {E : Ev} {l : Launch} {p : Program} {e : Env} {s : State} {m : MethodId} {args : Array Value} {below : List Frame} {meth : Method} {c : Code} {b : Nat} (hfb : fW b) {v : Nat} (hfv : fA v) (C : CX true E RX9 cX9_work 11 (some .int) p s m args meth c) {rr : Int32} {sr : St} : ∀ (n : Nat) (σ : St) (x2 : Int32) (x4 : Int32) (x5 : Int32), fX9_work_6 b v n σ x2 x4 x5 = some (rr, sr) → GW true l (rmD 1) E 11 p e s m args below meth c (MQ below (QI true E rr sr s.heap.size) args s 0 0 (aW true E s.heap.size)) σ 6 [(0, .ref (ea E b)), (2, .int x2), (3, .ref (ea E v)), (4, .int x4), (5, .int x5)] [] := by
  intro n
  induction n with
  | zero => intro σ x2 x4 x5 hf; have hf : (none : Option _) = some _ := hf; cases hf
  | succ n ih => intro σ x2 x4 x5 hf; exact b_fX9_work_6B hfb hfv C (fX9_work_6 b v n) ih σ x2 x4 x5 hf
def fX9_work (b : Nat) (v : Nat) (σ : St) (a0 : Int32) (a1 : Int32) : Option (Int32 × St) :=
fX9_work_6 b v FU σ a1 2 a0
set_option maxHeartbeats 4000000 in
theorem c_fX9_work {E : Ev} {l : Launch} {b : Nat} (hfb : fW b) {v : Nat} (hfv : fA v) (hj : jW true E) (σ : St) (sz : Nat) (a0 : Int32) (a1 : Int32) {rr : Int32} {sr : St} (hf : fX9_work b v σ a0 a1 = some (rr, sr)) : Met l yX9_work (Cond.code yX9_work cX9_work 11 (some .int) :: gT) (rmD 1) (va_Pc [.ref (ea E b), .int a0, .int a1, .ref (ea E v)] (preW true E σ sz)) (QI true E rr sr sz) 0 0 (aW true E sz) := by
  refine r_entry (QI true E rr sr) hj (by decide) [.ref (ea E b), .int a0, .int a1, .ref (ea E v)] (Nat.le_of_ble_eq_true rfl) (fun p e s m args below meth c C => ?_)
  intro H locs ls hP hS hl
  have hl : lv_has ls 11 [(0, .ref (ea E b)), (1, .int a0), (2, .int a1), (3, .ref (ea E v))] := hl
  obtain ⟨hx, hb, hr, hml, hown, hts, hlocks, hK, hX, hj⟩ := id C
  unfold fX9_work at hf
  refine lv_iconst (v := 2) hx hb dX9_work_0 (by decide) ?_
  refine lv_istore (lv' := [(4, .int 2), (0, .ref (ea E b)), (1, .int a0), (2, .int a1), (3, .ref (ea E v))]) hx hb dX9_work_1 hl (by decide) rfl (fun ls hl => ?_)
  refine lv_iload_n hx hb dX9_work_3 rfl (lv_at hl 2 rfl) ?_
  refine lv_istore (lv' := [(5, .int a0), (4, .int 2), (0, .ref (ea E b)), (1, .int a0), (2, .int a1), (3, .ref (ea E v))]) hx hb dX9_work_4 hl (by decide) rfl (fun ls hl => ?_)
  exact b_fX9_work_6 hfb hfv C FU σ a1 2 a0 hf H locs ls hP hS (lv_sub hl [2, 4, 5, 1, 0] rfl)
def fX10_feed (σ : St) (a0 : Int32) (a1 : Int32) (a2 : Int32) (a3 : Int32) (a4 : Int32) : Option (Int32 × St) :=
(if (fX4_hasRoom σ 20) = 0 then
some ((-1), σ)
else
(cb (fX4_addBytes σ a0) fun r2 σ4 =>
(cb (fX4_addBytes σ4 a1) fun r5 σ7 =>
(cb (fX4_addBytes σ7 a2) fun r8 σ10 =>
(cb (fX4_addBytes σ10 a3) fun r11 σ13 =>
(cb (fX4_addBytes σ13 a4) fun r14 σ16 =>
some (r14, σ16)))))))
set_option maxHeartbeats 4000000 in
theorem c_fX10_feed {E : Ev} {l : Launch} (hj : jW true E) (σ : St) (sz : Nat) (a0 : Int32) (a1 : Int32) (a2 : Int32) (a3 : Int32) (a4 : Int32) {rr : Int32} {sr : St} (hf : fX10_feed σ a0 a1 a2 a3 a4 = some (rr, sr)) : Met l yX10_feed (Cond.code yX10_feed cX10_feed 6 (some .int) :: gT) (rmD 2) (va_Pc [.ref (ea E 0), .int a0, .int a1, .int a2, .int a3, .int a4] (preW true E σ sz)) (QI true E rr sr sz) 0 0 (aW true E sz) := by
  refine r_entry (QI true E rr sr) hj (by decide) [.ref (ea E 0), .int a0, .int a1, .int a2, .int a3, .int a4] (Nat.le_of_ble_eq_true rfl) (fun p e s m args below meth c C => ?_)
  intro H locs ls hP hS hl
  have hl : lv_has ls 6 [(0, .ref (ea E 0)), (1, .int a0), (2, .int a1), (3, .int a2), (4, .int a3), (5, .int a4)] := hl
  obtain ⟨hx, hb, hr, hml, hown, hts, hlocks, hK, hX, hj⟩ := id C
  unfold fX10_feed at hf
  refine lv_aload_n hx hb dX10_feed_0 rfl (lv_at hl 0 rfl) ?_
  refine r_get (k := 4) (v := .ref (ea E 24)) C hP oC_0 rfl iX10 (by decide) wm_t298 rfl rfl dX10_feed_1 ?_
  refine lv_bipush (v := 20) hx hb dX10_feed_4 (by decide) ?_
  refine r_cVi (n := 1) (As := [.int 20]) (rest := []) C (c_fX4_hasRoom hj σ H.size 20) oC_24 rfl gv_RX10_127 (by decide +kernel) (rmD_le (by decide) (by decide)) rfl rfl (Nat.le_of_ble_eq_true rfl) dX10_feed_6 hP hS hl.1 (fun H locs hP hS => ?_)
  refine lv_if_ne (tgt := 14) hx hb dX10_feed_9 (by decide) (fun c1 => ?_) (fun c1 => ?_)
  · replace hf := it_f c1 hf
    refine lv_aload_n hx hb dX10_feed_14 rfl (lv_at hl 0 rfl) ?_
    refine r_get (k := 4) (v := .ref (ea E 24)) C hP oC_0 rfl iX10 (by decide) wm_t298 rfl rfl dX10_feed_15 ?_
    refine lv_iload_n hx hb dX10_feed_18 rfl (lv_at hl 1 rfl) ?_
    obtain ⟨r2, σ4, hc3, hf⟩ := cb_e hf
    refine r_cVi (n := 1) (As := [.int a0]) (rest := []) C (c_fX4_addBytes hj σ H.size a0 hc3) oC_24 rfl gv_RX10_131 (by decide +kernel) (rmD_le (by decide) (by decide)) rfl rfl (Nat.le_of_ble_eq_true rfl) dX10_feed_19 hP hS hl.1 (fun H locs hP hS => ?_)
    refine lv_pop hx hb dX10_feed_22 rfl ?_
    refine lv_aload_n hx hb dX10_feed_23 rfl (lv_at hl 0 rfl) ?_
    refine r_get (k := 4) (v := .ref (ea E 24)) C hP oC_0 rfl iX10 (by decide) wm_t298 rfl rfl dX10_feed_24 ?_
    refine lv_iload_n hx hb dX10_feed_27 rfl (lv_at hl 2 rfl) ?_
    obtain ⟨r5, σ7, hc6, hf⟩ := cb_e hf
    refine r_cVi (n := 1) (As := [.int a1]) (rest := []) C (c_fX4_addBytes hj σ4 H.size a1 hc6) oC_24 rfl gv_RX10_131 (by decide +kernel) (rmD_le (by decide) (by decide)) rfl rfl (Nat.le_of_ble_eq_true rfl) dX10_feed_28 hP hS hl.1 (fun H locs hP hS => ?_)
    refine lv_pop hx hb dX10_feed_31 rfl ?_
    refine lv_aload_n hx hb dX10_feed_32 rfl (lv_at hl 0 rfl) ?_
    refine r_get (k := 4) (v := .ref (ea E 24)) C hP oC_0 rfl iX10 (by decide) wm_t298 rfl rfl dX10_feed_33 ?_
    refine lv_iload_n hx hb dX10_feed_36 rfl (lv_at hl 3 rfl) ?_
    obtain ⟨r8, σ10, hc9, hf⟩ := cb_e hf
    refine r_cVi (n := 1) (As := [.int a2]) (rest := []) C (c_fX4_addBytes hj σ7 H.size a2 hc9) oC_24 rfl gv_RX10_131 (by decide +kernel) (rmD_le (by decide) (by decide)) rfl rfl (Nat.le_of_ble_eq_true rfl) dX10_feed_37 hP hS hl.1 (fun H locs hP hS => ?_)
    refine lv_pop hx hb dX10_feed_40 rfl ?_
    refine lv_aload_n hx hb dX10_feed_41 rfl (lv_at hl 0 rfl) ?_
    refine r_get (k := 4) (v := .ref (ea E 24)) C hP oC_0 rfl iX10 (by decide) wm_t298 rfl rfl dX10_feed_42 ?_
    refine lv_iload hx hb dX10_feed_45 (lv_at hl 4 rfl) ?_
    obtain ⟨r11, σ13, hc12, hf⟩ := cb_e hf
    refine r_cVi (n := 1) (As := [.int a3]) (rest := []) C (c_fX4_addBytes hj σ10 H.size a3 hc12) oC_24 rfl gv_RX10_131 (by decide +kernel) (rmD_le (by decide) (by decide)) rfl rfl (Nat.le_of_ble_eq_true rfl) dX10_feed_47 hP hS hl.1 (fun H locs hP hS => ?_)
    refine lv_pop hx hb dX10_feed_50 rfl ?_
    refine lv_aload_n hx hb dX10_feed_51 rfl (lv_at hl 0 rfl) ?_
    refine r_get (k := 4) (v := .ref (ea E 24)) C hP oC_0 rfl iX10 (by decide) wm_t298 rfl rfl dX10_feed_52 ?_
    refine lv_iload hx hb dX10_feed_55 (lv_at hl 5 rfl) ?_
    obtain ⟨r14, σ16, hc15, hf⟩ := cb_e hf
    refine r_cVi (n := 1) (As := [.int a4]) (rest := []) C (c_fX4_addBytes hj σ13 H.size a4 hc15) oC_24 rfl gv_RX10_131 (by decide +kernel) (rmD_le (by decide) (by decide)) rfl rfl (Nat.le_of_ble_eq_true rfl) dX10_feed_57 hP hS hl.1 (fun H locs hP hS => ?_)
    cases hf
    exact r_iret C hP hS dX10_feed_60
  · replace hf := it_t c1 hf
    refine lv_iconst (v := (-1)) hx hb dX10_feed_12 (by decide) ?_
    cases hf
    exact r_iret C hP hS dX10_feed_13
def fX10_end (σ : St) (a0 : Int32) : Option (Int32 × St) :=
(cb (fX4_cutTo σ a0) fun r1 σ3 =>
(zb r1 (some (r1, σ3))))
set_option maxHeartbeats 4000000 in
theorem c_fX10_end {E : Ev} {l : Launch} (hj : jW true E) (σ : St) (sz : Nat) (a0 : Int32) {rr : Int32} {sr : St} (hf : fX10_end σ a0 = some (rr, sr)) : Met l yX10_end (Cond.code yX10_end cX10_end 2 (some .boolean) :: gT) (rmD 2) (va_Pc [.ref (ea E 0), .int a0] (preW true E σ sz)) (QI true E rr sr sz) 0 0 (aW true E sz) := by
  refine r_entry (QI true E rr sr) hj (by decide) [.ref (ea E 0), .int a0] (Nat.le_of_ble_eq_true rfl) (fun p e s m args below meth c C => ?_)
  intro H locs ls hP hS hl
  have hl : lv_has ls 2 [(0, .ref (ea E 0)), (1, .int a0)] := hl
  obtain ⟨hx, hb, hr, hml, hown, hts, hlocks, hK, hX, hj⟩ := id C
  unfold fX10_end at hf
  refine lv_aload_n hx hb dX10_end_0 rfl (lv_at hl 0 rfl) ?_
  refine r_get (k := 4) (v := .ref (ea E 24)) C hP oC_0 rfl iX10 (by decide) wm_t298 rfl rfl dX10_end_1 ?_
  refine lv_iload_n hx hb dX10_end_4 rfl (lv_at hl 1 rfl) ?_
  obtain ⟨r1, σ3, hc2, hf⟩ := cb_e hf
  refine r_cVi (n := 1) (As := [.int a0]) (rest := []) C (c_fX4_cutTo hj σ H.size a0 hc2) oC_24 rfl gv_RX10_134 (by decide +kernel) (rmD_le (by decide) (by decide)) rfl rfl (Nat.le_of_ble_eq_true rfl) dX10_end_5 hP hS hl.1 (fun H locs hP hS => ?_)
  obtain ⟨hz, hf⟩ := zb_e hf
  cases hf
  exact r_zret C (zb_nar hz) hP hS dX10_end_8
def fX10_fault (σ : St) (a0 : Int32) : Int32 :=
(if a0 = 0 then
(σ 24 8)
else
(if a0 = 1 then
(σ 24 9)
else
(-1)))
set_option maxHeartbeats 4000000 in
theorem c_fX10_fault {E : Ev} {l : Launch} (hj : jW true E) (σ : St) (sz : Nat) (a0 : Int32) : Met l yX10_fault (Cond.code yX10_fault cX10_fault 2 (some .int) :: gT) (rmD 1) (va_Pc [.ref (ea E 0), .int a0] (preW true E σ sz)) (QI true E (fX10_fault σ a0) σ sz) 0 0 (aW true E sz) := by
  refine r_entry (QI true E (fX10_fault σ a0) σ) hj (by decide) [.ref (ea E 0), .int a0] (Nat.le_of_ble_eq_true rfl) (fun p e s m args below meth c C => ?_)
  intro H locs ls hP hS hl
  have hl : lv_has ls 2 [(0, .ref (ea E 0)), (1, .int a0)] := hl
  obtain ⟨hx, hb, hr, hml, hown, hts, hlocks, hK, hX, hj⟩ := id C
  generalize hf : fX10_fault σ a0 = rr
  unfold fX10_fault at hf
  refine lv_iload_n hx hb dX10_fault_0 rfl (lv_at hl 1 rfl) ?_
  refine lv_if_ne (tgt := 12) hx hb dX10_fault_1 (by decide) (fun c1 => ?_) (fun c1 => ?_)
  · replace hf := it_f c1 hf
    refine lv_iload_n hx hb dX10_fault_12 rfl (lv_at hl 1 rfl) ?_
    refine lv_iconst (v := 1) hx hb dX10_fault_13 (by decide) ?_
    refine lv_icmp_ne (tgt := 27) hx hb dX10_fault_14 (by decide) (fun c2 => ?_) (fun c2 => ?_)
    · replace hf := it_f c2 hf
      refine lv_iconst (v := (-1)) hx hb dX10_fault_27 (by decide) ?_
      subst hf
      exact r_iret C hP hS dX10_fault_28
    · replace hf := it_t c2 hf
      refine lv_aload_n hx hb dX10_fault_17 rfl (lv_at hl 0 rfl) ?_
      refine r_get (k := 4) (v := .ref (ea E 24)) C hP oC_0 rfl iX10 (by decide) wm_t298 rfl rfl dX10_fault_18 ?_
      refine r_get (k := 9) (v := .int (σ 24 9)) C hP oC_24 rfl iX4 (by decide) wm_t173 rfl rfl dX10_fault_21 ?_
      refine lv_goto (tgt := 28) hx hb dX10_fault_24 (by decide) ?_
      subst hf
      exact r_iret C hP hS dX10_fault_28
  · replace hf := it_t c1 hf
    refine lv_aload_n hx hb dX10_fault_4 rfl (lv_at hl 0 rfl) ?_
    refine r_get (k := 4) (v := .ref (ea E 24)) C hP oC_0 rfl iX10 (by decide) wm_t298 rfl rfl dX10_fault_5 ?_
    refine r_get (k := 8) (v := .int (σ 24 8)) C hP oC_24 rfl iX4 (by decide) wm_t171 rfl rfl dX10_fault_8 ?_
    subst hf
    exact r_iret C hP hS dX10_fault_11
def fX10_sail (σ : St) (a0 : Int32) : Option (Int32 × St) :=
(if (σ 10 3) = 0 then
(nmS (st_put σ 10 3 1) fun σ2 =>
(nmS (st_put σ2 10 4 a0) fun σ3 =>
some (1, σ3)))
else
some (0, σ))
set_option maxHeartbeats 4000000 in
theorem c_fX10_sail {E : Ev} {l : Launch} (hj : jW true E) (σ : St) (sz : Nat) (a0 : Int32) {rr : Int32} {sr : St} (hf : fX10_sail σ a0 = some (rr, sr)) : Met l yX10_sail (Cond.code yX10_sail cX10_sail 2 (some .boolean) :: gT) (rmD 1) (va_Pc [.ref (ea E 0), .int a0] (preW true E σ sz)) (QI true E rr sr sz) 0 0 (aW true E sz) := by
  refine r_entry (QI true E rr sr) hj (by decide) [.ref (ea E 0), .int a0] (Nat.le_of_ble_eq_true rfl) (fun p e s m args below meth c C => ?_)
  intro H locs ls hP hS hl
  have hl : lv_has ls 2 [(0, .ref (ea E 0)), (1, .int a0)] := hl
  obtain ⟨hx, hb, hr, hml, hown, hts, hlocks, hK, hX, hj⟩ := id C
  unfold fX10_sail at hf
  refine lv_aload_n hx hb dX10_sail_0 rfl (lv_at hl 0 rfl) ?_
  refine r_get (k := 2) (v := .ref (ea E 10)) C hP oC_0 rfl iX10 (by decide) wm_t296 rfl rfl dX10_sail_1 ?_
  refine r_get (k := 3) (v := .int (σ 10 3)) C hP (oV fV_10) rfl iX5 (by decide) wm_t99 rfl rfl dX10_sail_4 ?_
  refine lv_if_eq (tgt := 12) hx hb dX10_sail_7 (by decide) (fun c1 => ?_) (fun c1 => ?_)
  · replace hf := it_t c1 hf
    refine lv_aload_n hx hb dX10_sail_12 rfl (lv_at hl 0 rfl) ?_
    refine r_get (k := 2) (v := .ref (ea E 10)) C hP oC_0 rfl iX10 (by decide) wm_t296 rfl rfl dX10_sail_13 ?_
    refine lv_iconst (v := 1) hx hb dX10_sail_16 (by decide) ?_
    refine r_put (k := 3) (x := 1) C hP hS tyX5 tyX5_ok nmX5 (oV fV_10) rfl iX5 (by decide) wm_t99 rfl rfl sV_3 rfl rfl (Nat.le_of_ble_eq_true rfl) dX10_sail_17 (fun H locs hP hS => ?_)
    obtain ⟨σ2, eσ2, hf⟩ := nmS_e hf
    rw [← eσ2] at hP
    refine lv_aload_n hx hb dX10_sail_20 rfl (lv_at hl 0 rfl) ?_
    refine r_get (k := 2) (v := .ref (ea E 10)) C hP oC_0 rfl iX10 (by decide) wm_t296 rfl rfl dX10_sail_21 ?_
    refine lv_iload_n hx hb dX10_sail_24 rfl (lv_at hl 1 rfl) ?_
    refine r_put (k := 4) (x := a0) C hP hS tyX5 tyX5_ok nmX5 (oV fV_10) rfl iX5 (by decide) wm_t101 rfl rfl sV_4 rfl rfl (Nat.le_of_ble_eq_true rfl) dX10_sail_25 (fun H locs hP hS => ?_)
    obtain ⟨σ3, eσ3, hf⟩ := nmS_e hf
    rw [← eσ3] at hP
    refine lv_iconst (v := 1) hx hb dX10_sail_28 (by decide) ?_
    cases hf
    exact r_zret C rfl hP hS dX10_sail_29
  · replace hf := it_f c1 hf
    refine lv_iconst (v := 0) hx hb dX10_sail_10 (by decide) ?_
    cases hf
    exact r_zret C rfl hP hS dX10_sail_11
def fX10_port (σ : St) (a0 : Int32) : Option (Int32 × St) :=
(if a0 < 1 then
some ((-1), σ)
else
(if 400 < a0 then
some ((-1), σ)
else
(if (σ 0 11) < 6 then
(wrK 6 σ 1 (σ 0 11) a0 fun σ4 =>
(nmS (st_put σ4 0 11 ((σ4 0 11) + 1)) fun σ6 =>
some (((σ6 0 11) - 1), σ6)))
else
some ((-1), σ))))
set_option maxHeartbeats 4000000 in
theorem c_fX10_port {E : Ev} {l : Launch} (hj : jW true E) (σ : St) (sz : Nat) (a0 : Int32) {rr : Int32} {sr : St} (hf : fX10_port σ a0 = some (rr, sr)) : Met l yX10_port (Cond.code yX10_port cX10_port 2 (some .int) :: gT) (rmD 1) (va_Pc [.ref (ea E 0), .int a0] (preW true E σ sz)) (QI true E rr sr sz) 0 0 (aW true E sz) := by
  refine r_entry (QI true E rr sr) hj (by decide) [.ref (ea E 0), .int a0] (Nat.le_of_ble_eq_true rfl) (fun p e s m args below meth c C => ?_)
  intro H locs ls hP hS hl
  have hl : lv_has ls 2 [(0, .ref (ea E 0)), (1, .int a0)] := hl
  obtain ⟨hx, hb, hr, hml, hown, hts, hlocks, hK, hX, hj⟩ := id C
  unfold fX10_port at hf
  refine lv_iload_n hx hb dX10_port_0 rfl (lv_at hl 1 rfl) ?_
  refine lv_iconst (v := 1) hx hb dX10_port_1 (by decide) ?_
  refine lv_icmp_lt (tgt := 21) hx hb dX10_port_2 (by decide) (fun c1 => ?_) (fun c1 => ?_)
  · replace hf := it_t c1 hf
    refine lv_iconst (v := (-1)) hx hb dX10_port_21 (by decide) ?_
    cases hf
    exact r_iret C hP hS dX10_port_22
  · replace hf := it_f c1 hf
    refine lv_iload_n hx hb dX10_port_5 rfl (lv_at hl 1 rfl) ?_
    refine lv_sipush (v := 400) hx hb dX10_port_6 (by decide) ?_
    refine lv_icmp_gt (tgt := 21) hx hb dX10_port_9 (by decide) (fun c2 => ?_) (fun c2 => ?_)
    · replace hf := it_t c2 hf
      refine lv_iconst (v := (-1)) hx hb dX10_port_21 (by decide) ?_
      cases hf
      exact r_iret C hP hS dX10_port_22
    · replace hf := it_f c2 hf
      refine lv_aload_n hx hb dX10_port_12 rfl (lv_at hl 0 rfl) ?_
      refine r_get (k := 11) (v := .int (σ 0 11)) C hP oC_0 rfl iX10 (by decide) wm_t305 rfl rfl dX10_port_13 ?_
      refine lv_bipush (v := 6) hx hb dX10_port_16 (by decide) ?_
      refine lv_icmp_lt (tgt := 23) hx hb dX10_port_18 (by decide) (fun c3 => ?_) (fun c3 => ?_)
      · replace hf := it_t c3 hf
        refine lv_aload_n hx hb dX10_port_23 rfl (lv_at hl 0 rfl) ?_
        refine r_get (k := 10) (v := .ref (ea E 1)) C hP oC_0 rfl iX10 (by decide) wm_t304 rfl rfl dX10_port_24 ?_
        refine lv_aload_n hx hb dX10_port_27 rfl (lv_at hl 0 rfl) ?_
        refine r_get (k := 11) (v := .int (σ 0 11)) C hP oC_0 rfl iX10 (by decide) wm_t305 rfl rfl dX10_port_28 ?_
        refine lv_iload_n hx hb dX10_port_31 rfl (lv_at hl 1 rfl) ?_
        obtain ⟨h5, σ4, eσ4, hf⟩ := wrK_e hf
        refine r_ast C hP hS aC_1 h5 dX10_port_32 (fun H locs hP hS => ?_)
        rw [← eσ4] at hP
        refine lv_aload_n hx hb dX10_port_33 rfl (lv_at hl 0 rfl) ?_
        refine lv_dup hx hb dX10_port_34 rfl ?_
        refine r_get (k := 11) (v := .int (σ4 0 11)) C hP oC_0 rfl iX10 (by decide) wm_t305 rfl rfl dX10_port_35 ?_
        refine lv_iconst (v := 1) hx hb dX10_port_38 (by decide) ?_
        refine lv_iadd hx hb dX10_port_39 ?_
        refine r_put (k := 11) (x := ((σ4 0 11) + 1)) C hP hS tyX10 tyX10_ok nmX10 oC_0 rfl iX10 (by decide) wm_t305 rfl rfl sC_0_11 rfl rfl (Nat.le_of_ble_eq_true rfl) dX10_port_40 (fun H locs hP hS => ?_)
        obtain ⟨σ6, eσ6, hf⟩ := nmS_e hf
        rw [← eσ6] at hP
        refine lv_aload_n hx hb dX10_port_43 rfl (lv_at hl 0 rfl) ?_
        refine r_get (k := 11) (v := .int (σ6 0 11)) C hP oC_0 rfl iX10 (by decide) wm_t305 rfl rfl dX10_port_44 ?_
        refine lv_iconst (v := 1) hx hb dX10_port_47 (by decide) ?_
        refine lv_isub hx hb dX10_port_48 ?_
        cases hf
        exact r_iret C hP hS dX10_port_49
      · replace hf := it_f c3 hf
        refine lv_iconst (v := (-1)) hx hb dX10_port_21 (by decide) ?_
        cases hf
        exact r_iret C hP hS dX10_port_22
def fX10_within (a0 : Int32) (a1 : Int32) : Int32 :=
(if a0 < 0 then
0
else
(if a1 ≤ a0 then
0
else
1))
set_option maxHeartbeats 4000000 in
theorem c_fX10_within {E : Ev} {l : Launch} (hj : jW true E) (σ : St) (sz : Nat) (a0 : Int32) (a1 : Int32) : Met l yX10_within (Cond.code yX10_within cX10_within 2 (some .boolean) :: gT) (rmD 1) (va_Pc [.int a0, .int a1] (preW true E σ sz)) (QI true E (fX10_within a0 a1) σ sz) 0 0 (aW true E sz) := by
  refine r_entry (QI true E (fX10_within a0 a1) σ) hj (by decide) [.int a0, .int a1] (Nat.le_of_ble_eq_true rfl) (fun p e s m args below meth c C => ?_)
  intro H locs ls hP hS hl
  have hl : lv_has ls 2 [(0, .int a0), (1, .int a1)] := hl
  obtain ⟨hx, hb, hr, hml, hown, hts, hlocks, hK, hX, hj⟩ := id C
  generalize hf : fX10_within a0 a1 = rr
  unfold fX10_within at hf
  refine lv_iload_n hx hb dX10_within_0 rfl (lv_at hl 0 rfl) ?_
  refine lv_if_lt (tgt := 13) hx hb dX10_within_1 (by decide) (fun c1 => ?_) (fun c1 => ?_)
  · replace hf := it_t c1 hf
    refine lv_iconst (v := 0) hx hb dX10_within_13 (by decide) ?_
    subst hf
    exact r_zret C rfl hP hS dX10_within_14
  · replace hf := it_f c1 hf
    refine lv_iload_n hx hb dX10_within_4 rfl (lv_at hl 0 rfl) ?_
    refine lv_iload_n hx hb dX10_within_5 rfl (lv_at hl 1 rfl) ?_
    refine lv_icmp_ge (tgt := 13) hx hb dX10_within_6 (by decide) (fun c2 => ?_) (fun c2 => ?_)
    · replace hf := it_t c2 hf
      refine lv_iconst (v := 0) hx hb dX10_within_13 (by decide) ?_
      subst hf
      exact r_zret C rfl hP hS dX10_within_14
    · replace hf := it_f c2 hf
      refine lv_iconst (v := 1) hx hb dX10_within_9 (by decide) ?_
      refine lv_goto (tgt := 14) hx hb dX10_within_10 (by decide) ?_
      subst hf
      exact r_zret C rfl hP hS dX10_within_14
theorem z_fX10_within (a0 : Int32) (a1 : Int32) : fX10_within a0 a1 = 0 ∨ fX10_within a0 a1 = 1 := by
  unfold fX10_within
  repeat' split
  all_goals first | exact Or.inl rfl | exact Or.inr rfl
def fX10_held (a0 : Int32) (a1 : Int32) : Int32 :=
(nm (if 0 < (if a1 < a0 then a1 else a0) then (if a1 < a0 then a1 else a0) else 0) fun v1 =>
v1)
set_option maxHeartbeats 4000000 in
theorem c_fX10_held {E : Ev} {l : Launch} (hj : jW true E) (σ : St) (sz : Nat) (a0 : Int32) (a1 : Int32) : Met l yX10_held (Cond.code yX10_held cX10_held 2 (some .int) :: gT) (rmD 2) (va_Pc [.int a0, .int a1] (preW true E σ sz)) (QI true E (fX10_held a0 a1) σ sz) 0 0 (aW true E sz) := by
  refine r_entry (QI true E (fX10_held a0 a1) σ) hj (by decide) [.int a0, .int a1] (Nat.le_of_ble_eq_true rfl) (fun p e s m args below meth c C => ?_)
  intro H locs ls hP hS hl
  have hl : lv_has ls 2 [(0, .int a0), (1, .int a1)] := hl
  obtain ⟨hx, hb, hr, hml, hown, hts, hlocks, hK, hX, hj⟩ := id C
  generalize hf : fX10_held a0 a1 = rr
  unfold fX10_held at hf
  refine lv_iconst (v := 0) hx hb dX10_held_0 (by decide) ?_
  refine lv_iload_n hx hb dX10_held_1 rfl (lv_at hl 0 rfl) ?_
  refine lv_iload_n hx hb dX10_held_2 rfl (lv_at hl 1 rfl) ?_
  refine va_mmin hx hb (hml.trans hl.1.symm) hown (hts _ wm_t697) (hts _ wm_t505) (hts _ wm_t4) (hts _ wm_t506) (by decide) (Nat.le_of_ble_eq_true rfl) (Nat.zero_le _) (Nat.zero_le _) dX10_held_3 ?_
  refine va_mmax hx hb (hml.trans hl.1.symm) hown (hts _ wm_t698) (hts _ wm_t50) (hts _ wm_t4) (hts _ wm_t51) (by decide) (Nat.le_of_ble_eq_true rfl) (Nat.zero_le _) (Nat.zero_le _) dX10_held_6 ?_
  refine lv_topi (fun v1 ev1 => ?_)
  replace hf := nm_i ev1 hf
  subst hf
  exact r_iret C hP hS dX10_held_9
def fX10_heapCell (a0 : Int32) (a1 : Int32) (a2 : Int32) : Int32 :=
(if (fX10_within a0 8) = 0 then
(-1)
else
(if (fX10_within a1 8) = 0 then
(-1)
else
(if (fX10_within a2 4) = 0 then
(-1)
else
((((a0 * 8) + a1) * 4) + a2))))
set_option maxHeartbeats 4000000 in
theorem c_fX10_heapCell {E : Ev} {l : Launch} (hj : jW true E) (σ : St) (sz : Nat) (a0 : Int32) (a1 : Int32) (a2 : Int32) : Met l yX10_heapCell (Cond.code yX10_heapCell cX10_heapCell 3 (some .int) :: gT) (rmD 2) (va_Pc [.int a0, .int a1, .int a2] (preW true E σ sz)) (QI true E (fX10_heapCell a0 a1 a2) σ sz) 0 0 (aW true E sz) := by
  refine r_entry (QI true E (fX10_heapCell a0 a1 a2) σ) hj (by decide) [.int a0, .int a1, .int a2] (Nat.le_of_ble_eq_true rfl) (fun p e s m args below meth c C => ?_)
  intro H locs ls hP hS hl
  have hl : lv_has ls 3 [(0, .int a0), (1, .int a1), (2, .int a2)] := hl
  obtain ⟨hx, hb, hr, hml, hown, hts, hlocks, hK, hX, hj⟩ := id C
  generalize hf : fX10_heapCell a0 a1 a2 = rr
  unfold fX10_heapCell at hf
  refine lv_iload_n hx hb dX10_heapCell_0 rfl (lv_at hl 0 rfl) ?_
  refine lv_bipush (v := 8) hx hb dX10_heapCell_1 (by decide) ?_
  refine r_cSi (n := 2) (As := [.int a0, .int 8]) (rest := []) C (c_fX10_within hj σ H.size a0 8) gs_RX10_85 (by decide +kernel) (rmD_le (by decide) (by decide)) rfl rfl (Nat.le_of_ble_eq_true rfl) dX10_heapCell_3 hP hS hl.1 (fun H locs hP hS => ?_)
  refine lv_if_eq (tgt := 26) hx hb dX10_heapCell_6 (by decide) (fun c1 => ?_) (fun c1 => ?_)
  · replace hf := it_t c1 hf
    refine lv_iconst (v := (-1)) hx hb dX10_heapCell_26 (by decide) ?_
    subst hf
    exact r_iret C hP hS dX10_heapCell_27
  · replace hf := it_f c1 hf
    refine lv_iload_n hx hb dX10_heapCell_9 rfl (lv_at hl 1 rfl) ?_
    refine lv_bipush (v := 8) hx hb dX10_heapCell_10 (by decide) ?_
    refine r_cSi (n := 2) (As := [.int a1, .int 8]) (rest := []) C (c_fX10_within hj σ H.size a1 8) gs_RX10_85 (by decide +kernel) (rmD_le (by decide) (by decide)) rfl rfl (Nat.le_of_ble_eq_true rfl) dX10_heapCell_12 hP hS hl.1 (fun H locs hP hS => ?_)
    refine lv_if_eq (tgt := 26) hx hb dX10_heapCell_15 (by decide) (fun c2 => ?_) (fun c2 => ?_)
    · replace hf := it_t c2 hf
      refine lv_iconst (v := (-1)) hx hb dX10_heapCell_26 (by decide) ?_
      subst hf
      exact r_iret C hP hS dX10_heapCell_27
    · replace hf := it_f c2 hf
      refine lv_iload_n hx hb dX10_heapCell_18 rfl (lv_at hl 2 rfl) ?_
      refine lv_iconst (v := 4) hx hb dX10_heapCell_19 (by decide) ?_
      refine r_cSi (n := 2) (As := [.int a2, .int 4]) (rest := []) C (c_fX10_within hj σ H.size a2 4) gs_RX10_85 (by decide +kernel) (rmD_le (by decide) (by decide)) rfl rfl (Nat.le_of_ble_eq_true rfl) dX10_heapCell_20 hP hS hl.1 (fun H locs hP hS => ?_)
      refine lv_if_ne (tgt := 28) hx hb dX10_heapCell_23 (by decide) (fun c3 => ?_) (fun c3 => ?_)
      · replace hf := it_f c3 hf
        refine lv_iload_n hx hb dX10_heapCell_28 rfl (lv_at hl 0 rfl) ?_
        refine lv_bipush (v := 8) hx hb dX10_heapCell_29 (by decide) ?_
        refine lv_imul hx hb dX10_heapCell_31 ?_
        refine lv_iload_n hx hb dX10_heapCell_32 rfl (lv_at hl 1 rfl) ?_
        refine lv_iadd hx hb dX10_heapCell_33 ?_
        refine lv_iconst (v := 4) hx hb dX10_heapCell_34 (by decide) ?_
        refine lv_imul hx hb dX10_heapCell_35 ?_
        refine lv_iload_n hx hb dX10_heapCell_36 rfl (lv_at hl 2 rfl) ?_
        refine lv_iadd hx hb dX10_heapCell_37 ?_
        subst hf
        exact r_iret C hP hS dX10_heapCell_38
      · replace hf := it_t c3 hf
        refine lv_iconst (v := (-1)) hx hb dX10_heapCell_26 (by decide) ?_
        subst hf
        exact r_iret C hP hS dX10_heapCell_27
def fX10_holdCell (a0 : Int32) (a1 : Int32) (a2 : Int32) : Int32 :=
(if (fX10_within a0 4) = 0 then
(-1)
else
(if (fX10_within a1 6) = 0 then
(-1)
else
(if (fX10_within a2 6) = 0 then
(-1)
else
((((a0 * 6) + a1) * 6) + a2))))
set_option maxHeartbeats 4000000 in
theorem c_fX10_holdCell {E : Ev} {l : Launch} (hj : jW true E) (σ : St) (sz : Nat) (a0 : Int32) (a1 : Int32) (a2 : Int32) : Met l yX10_holdCell (Cond.code yX10_holdCell cX10_holdCell 3 (some .int) :: gT) (rmD 2) (va_Pc [.int a0, .int a1, .int a2] (preW true E σ sz)) (QI true E (fX10_holdCell a0 a1 a2) σ sz) 0 0 (aW true E sz) := by
  refine r_entry (QI true E (fX10_holdCell a0 a1 a2) σ) hj (by decide) [.int a0, .int a1, .int a2] (Nat.le_of_ble_eq_true rfl) (fun p e s m args below meth c C => ?_)
  intro H locs ls hP hS hl
  have hl : lv_has ls 3 [(0, .int a0), (1, .int a1), (2, .int a2)] := hl
  obtain ⟨hx, hb, hr, hml, hown, hts, hlocks, hK, hX, hj⟩ := id C
  generalize hf : fX10_holdCell a0 a1 a2 = rr
  unfold fX10_holdCell at hf
  refine lv_iload_n hx hb dX10_holdCell_0 rfl (lv_at hl 0 rfl) ?_
  refine lv_iconst (v := 4) hx hb dX10_holdCell_1 (by decide) ?_
  refine r_cSi (n := 2) (As := [.int a0, .int 4]) (rest := []) C (c_fX10_within hj σ H.size a0 4) gs_RX10_85 (by decide +kernel) (rmD_le (by decide) (by decide)) rfl rfl (Nat.le_of_ble_eq_true rfl) dX10_holdCell_2 hP hS hl.1 (fun H locs hP hS => ?_)
  refine lv_if_eq (tgt := 26) hx hb dX10_holdCell_5 (by decide) (fun c1 => ?_) (fun c1 => ?_)
  · replace hf := it_t c1 hf
    refine lv_iconst (v := (-1)) hx hb dX10_holdCell_26 (by decide) ?_
    subst hf
    exact r_iret C hP hS dX10_holdCell_27
  · replace hf := it_f c1 hf
    refine lv_iload_n hx hb dX10_holdCell_8 rfl (lv_at hl 1 rfl) ?_
    refine lv_bipush (v := 6) hx hb dX10_holdCell_9 (by decide) ?_
    refine r_cSi (n := 2) (As := [.int a1, .int 6]) (rest := []) C (c_fX10_within hj σ H.size a1 6) gs_RX10_85 (by decide +kernel) (rmD_le (by decide) (by decide)) rfl rfl (Nat.le_of_ble_eq_true rfl) dX10_holdCell_11 hP hS hl.1 (fun H locs hP hS => ?_)
    refine lv_if_eq (tgt := 26) hx hb dX10_holdCell_14 (by decide) (fun c2 => ?_) (fun c2 => ?_)
    · replace hf := it_t c2 hf
      refine lv_iconst (v := (-1)) hx hb dX10_holdCell_26 (by decide) ?_
      subst hf
      exact r_iret C hP hS dX10_holdCell_27
    · replace hf := it_f c2 hf
      refine lv_iload_n hx hb dX10_holdCell_17 rfl (lv_at hl 2 rfl) ?_
      refine lv_bipush (v := 6) hx hb dX10_holdCell_18 (by decide) ?_
      refine r_cSi (n := 2) (As := [.int a2, .int 6]) (rest := []) C (c_fX10_within hj σ H.size a2 6) gs_RX10_85 (by decide +kernel) (rmD_le (by decide) (by decide)) rfl rfl (Nat.le_of_ble_eq_true rfl) dX10_holdCell_20 hP hS hl.1 (fun H locs hP hS => ?_)
      refine lv_if_ne (tgt := 28) hx hb dX10_holdCell_23 (by decide) (fun c3 => ?_) (fun c3 => ?_)
      · replace hf := it_f c3 hf
        refine lv_iload_n hx hb dX10_holdCell_28 rfl (lv_at hl 0 rfl) ?_
        refine lv_bipush (v := 6) hx hb dX10_holdCell_29 (by decide) ?_
        refine lv_imul hx hb dX10_holdCell_31 ?_
        refine lv_iload_n hx hb dX10_holdCell_32 rfl (lv_at hl 1 rfl) ?_
        refine lv_iadd hx hb dX10_holdCell_33 ?_
        refine lv_bipush (v := 6) hx hb dX10_holdCell_34 (by decide) ?_
        refine lv_imul hx hb dX10_holdCell_36 ?_
        refine lv_iload_n hx hb dX10_holdCell_37 rfl (lv_at hl 2 rfl) ?_
        refine lv_iadd hx hb dX10_holdCell_38 ?_
        subst hf
        exact r_iret C hP hS dX10_holdCell_39
      · replace hf := it_t c3 hf
        refine lv_iconst (v := (-1)) hx hb dX10_holdCell_26 (by decide) ?_
        subst hf
        exact r_iret C hP hS dX10_holdCell_27
def fX10_cellOf (a0 : Int32) (a1 : Int32) (a2 : Int32) (a3 : Int32) : Int32 :=
(if a0 = (-1) then
(fX10_heapCell a1 a2 a3)
else
(fX10_holdCell a0 a1 a3))
set_option maxHeartbeats 4000000 in
theorem c_fX10_cellOf {E : Ev} {l : Launch} (hj : jW true E) (σ : St) (sz : Nat) (a0 : Int32) (a1 : Int32) (a2 : Int32) (a3 : Int32) : Met l yX10_cellOf (Cond.code yX10_cellOf cX10_cellOf 4 (some .int) :: gT) (rmD 3) (va_Pc [.int a0, .int a1, .int a2, .int a3] (preW true E σ sz)) (QI true E (fX10_cellOf a0 a1 a2 a3) σ sz) 0 0 (aW true E sz) := by
  refine r_entry (QI true E (fX10_cellOf a0 a1 a2 a3) σ) hj (by decide) [.int a0, .int a1, .int a2, .int a3] (Nat.le_of_ble_eq_true rfl) (fun p e s m args below meth c C => ?_)
  intro H locs ls hP hS hl
  have hl : lv_has ls 4 [(0, .int a0), (1, .int a1), (2, .int a2), (3, .int a3)] := hl
  obtain ⟨hx, hb, hr, hml, hown, hts, hlocks, hK, hX, hj⟩ := id C
  generalize hf : fX10_cellOf a0 a1 a2 a3 = rr
  unfold fX10_cellOf at hf
  refine lv_iload_n hx hb dX10_cellOf_0 rfl (lv_at hl 0 rfl) ?_
  refine lv_iconst (v := (-1)) hx hb dX10_cellOf_1 (by decide) ?_
  refine lv_icmp_ne (tgt := 14) hx hb dX10_cellOf_2 (by decide) (fun c1 => ?_) (fun c1 => ?_)
  · replace hf := it_f c1 hf
    refine lv_iload_n hx hb dX10_cellOf_14 rfl (lv_at hl 0 rfl) ?_
    refine lv_iload_n hx hb dX10_cellOf_15 rfl (lv_at hl 1 rfl) ?_
    refine lv_iload_n hx hb dX10_cellOf_16 rfl (lv_at hl 3 rfl) ?_
    refine r_cSi (n := 3) (As := [.int a0, .int a1, .int a3]) (rest := []) C (c_fX10_holdCell hj σ H.size a0 a1 a3) gs_RX10_190 (by decide +kernel) (rmD_le (by decide) (by decide)) rfl rfl (Nat.le_of_ble_eq_true rfl) dX10_cellOf_17 hP hS hl.1 (fun H locs hP hS => ?_)
    subst hf
    exact r_iret C hP hS dX10_cellOf_20
  · replace hf := it_t c1 hf
    refine lv_iload_n hx hb dX10_cellOf_5 rfl (lv_at hl 1 rfl) ?_
    refine lv_iload_n hx hb dX10_cellOf_6 rfl (lv_at hl 2 rfl) ?_
    refine lv_iload_n hx hb dX10_cellOf_7 rfl (lv_at hl 3 rfl) ?_
    refine r_cSi (n := 3) (As := [.int a1, .int a2, .int a3]) (rest := []) C (c_fX10_heapCell hj σ H.size a1 a2 a3) gs_RX10_96 (by decide +kernel) (rmD_le (by decide) (by decide)) rfl rfl (Nat.le_of_ble_eq_true rfl) dX10_cellOf_8 hP hS hl.1 (fun H locs hP hS => ?_)
    refine lv_goto (tgt := 20) hx hb dX10_cellOf_11 (by decide) ?_
    subst hf
    exact r_iret C hP hS dX10_cellOf_20
def fX10_stacksOf (a0 : Int32) : Nat :=
(if a0 = (-1) then
5
else
(10 + 2))
set_option maxHeartbeats 4000000 in
theorem c_fX10_stacksOf {E : Ev} {l : Launch} (hj : jW true E) (σ : St) (sz : Nat) (a0 : Int32) : Met l yX10_stacksOf (Cond.code yX10_stacksOf cX10_stacksOf 2 (some (.object "SoupCargo$Stacks")) :: gT) (rmD 1) (va_Pc [.ref (ea E 0), .int a0] (preW true E σ sz)) (QR true E (fX10_stacksOf a0) σ sz) 0 0 (aW true E sz) := by
  refine r_entry (QR true E (fX10_stacksOf a0) σ) hj (by decide) [.ref (ea E 0), .int a0] (Nat.le_of_ble_eq_true rfl) (fun p e s m args below meth c C => ?_)
  intro H locs ls hP hS hl
  have hl : lv_has ls 2 [(0, .ref (ea E 0)), (1, .int a0)] := hl
  obtain ⟨hx, hb, hr, hml, hown, hts, hlocks, hK, hX, hj⟩ := id C
  generalize hf : fX10_stacksOf a0 = rr
  unfold fX10_stacksOf at hf
  refine lv_iload_n hx hb dX10_stacksOf_0 rfl (lv_at hl 1 rfl) ?_
  refine lv_iconst (v := (-1)) hx hb dX10_stacksOf_1 (by decide) ?_
  refine lv_icmp_ne (tgt := 12) hx hb dX10_stacksOf_2 (by decide) (fun c1 => ?_) (fun c1 => ?_)
  · replace hf := it_f c1 hf
    refine lv_aload_n hx hb dX10_stacksOf_12 rfl (lv_at hl 0 rfl) ?_
    refine r_get (k := 2) (v := .ref (ea E 10)) C hP oC_0 rfl iX10 (by decide) wm_t296 rfl rfl dX10_stacksOf_13 ?_
    refine r_get (k := 0) (v := .ref (ea E (10 + 2))) C hP (oV fV_10) rfl iX5 (by decide) wm_t95 rfl rfl dX10_stacksOf_16 ?_
    cases hf
    exact r_aret C hP hS dX10_stacksOf_19
  · replace hf := it_t c1 hf
    refine lv_aload_n hx hb dX10_stacksOf_5 rfl (lv_at hl 0 rfl) ?_
    refine r_get (k := 1) (v := .ref (ea E 5)) C hP oC_0 rfl iX10 (by decide) wm_t295 rfl rfl dX10_stacksOf_6 ?_
    refine lv_goto (tgt := 19) hx hb dX10_stacksOf_9 (by decide) ?_
    cases hf
    exact r_aret C hP hS dX10_stacksOf_19
theorem h_fX10_stacksOf (a0 : Int32) : fS (fX10_stacksOf a0) := by
  unfold fX10_stacksOf
  split
  all_goals first | exact fS_5 | exact fS_12
def fX10_columnArm (a0 : Int32) : Int32 :=
((2 * a0) - 5)
set_option maxHeartbeats 4000000 in
theorem c_fX10_columnArm {E : Ev} {l : Launch} (hj : jW true E) (σ : St) (sz : Nat) (a0 : Int32) : Met l yX10_columnArm (Cond.code yX10_columnArm cX10_columnArm 1 (some .int) :: gT) (rmD 1) (va_Pc [.int a0] (preW true E σ sz)) (QI true E (fX10_columnArm a0) σ sz) 0 0 (aW true E sz) := by
  refine r_entry (QI true E (fX10_columnArm a0) σ) hj (by decide) [.int a0] (Nat.le_of_ble_eq_true rfl) (fun p e s m args below meth c C => ?_)
  intro H locs ls hP hS hl
  have hl : lv_has ls 1 [(0, .int a0)] := hl
  obtain ⟨hx, hb, hr, hml, hown, hts, hlocks, hK, hX, hj⟩ := id C
  generalize hf : fX10_columnArm a0 = rr
  unfold fX10_columnArm at hf
  refine lv_iconst (v := 2) hx hb dX10_columnArm_0 (by decide) ?_
  refine lv_iload_n hx hb dX10_columnArm_1 rfl (lv_at hl 0 rfl) ?_
  refine lv_imul hx hb dX10_columnArm_2 ?_
  refine lv_iconst (v := 5) hx hb dX10_columnArm_3 (by decide) ?_
  refine lv_isub hx hb dX10_columnArm_4 ?_
  subst hf
  exact r_iret C hP hS dX10_columnArm_5
def fX10_worstOf (a0 : Int32) : Int32 :=
(((6 * (a0 / 6)) * (6 - (a0 / 6))) + ((a0 - a0 / 6 * 6) * (fX10_columnArm (5 - (a0 / 6)))))
set_option maxHeartbeats 4000000 in
theorem c_fX10_worstOf {E : Ev} {l : Launch} (hj : jW true E) (σ : St) (sz : Nat) (a0 : Int32) : Met l yX10_worstOf (Cond.code yX10_worstOf cX10_worstOf 2 (some .int) :: gT) (rmD 2) (va_Pc [.int a0] (preW true E σ sz)) (QI true E (fX10_worstOf a0) σ sz) 0 0 (aW true E sz) := by
  refine r_entry (QI true E (fX10_worstOf a0) σ) hj (by decide) [.int a0] (Nat.le_of_ble_eq_true rfl) (fun p e s m args below meth c C => ?_)
  intro H locs ls hP hS hl
  have hl : lv_has ls 2 [(0, .int a0)] := hl
  obtain ⟨hx, hb, hr, hml, hown, hts, hlocks, hK, hX, hj⟩ := id C
  generalize hf : fX10_worstOf a0 = rr
  unfold fX10_worstOf at hf
  refine lv_iload_n hx hb dX10_worstOf_0 rfl (lv_at hl 0 rfl) ?_
  refine lv_bipush (v := 6) hx hb dX10_worstOf_1 (by decide) ?_
  refine lv_idiv hx hb dX10_worstOf_3 (by decide) ?_
  refine lv_istore_n (lv' := [(1, .int (a0 / 6)), (0, .int a0)]) hx hb dX10_worstOf_4 rfl hl (by decide) rfl (fun ls hl => ?_)
  refine lv_bipush (v := 6) hx hb dX10_worstOf_5 (by decide) ?_
  refine lv_iload_n hx hb dX10_worstOf_7 rfl (lv_at hl 0 rfl) ?_
  refine lv_imul hx hb dX10_worstOf_8 ?_
  refine lv_bipush (v := 6) hx hb dX10_worstOf_9 (by decide) ?_
  refine lv_iload_n hx hb dX10_worstOf_11 rfl (lv_at hl 0 rfl) ?_
  refine lv_isub hx hb dX10_worstOf_12 ?_
  refine lv_imul hx hb dX10_worstOf_13 ?_
  refine lv_iload_n hx hb dX10_worstOf_14 rfl (lv_at hl 1 rfl) ?_
  refine lv_bipush (v := 6) hx hb dX10_worstOf_15 (by decide) ?_
  refine lv_irem hx hb dX10_worstOf_17 (by decide) ?_
  refine lv_iconst (v := 5) hx hb dX10_worstOf_18 (by decide) ?_
  refine lv_iload_n hx hb dX10_worstOf_19 rfl (lv_at hl 0 rfl) ?_
  refine lv_isub hx hb dX10_worstOf_20 ?_
  refine r_cSi (n := 1) (As := [.int (5 - (a0 / 6))]) (rest := [.int (a0 - a0 / 6 * 6), .int ((6 * (a0 / 6)) * (6 - (a0 / 6)))]) C (c_fX10_columnArm hj σ H.size (5 - (a0 / 6))) gs_RX10_317 (by decide +kernel) (rmD_le (by decide) (by decide)) rfl rfl (Nat.le_of_ble_eq_true rfl) dX10_worstOf_21 hP hS hl.1 (fun H locs hP hS => ?_)
  refine lv_imul hx hb dX10_worstOf_24 ?_
  refine lv_iadd hx hb dX10_worstOf_25 ?_
  subst hf
  exact r_iret C hP hS dX10_worstOf_26
